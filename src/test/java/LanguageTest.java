import java.io.IOException;
import java.lang.reflect.Constructor;
import java.lang.reflect.Field;
import java.lang.reflect.Member;
import java.lang.reflect.Method;
import java.lang.reflect.Modifier;
import java.nio.file.Files;
import java.nio.file.Path;
import java.util.HashSet;
import java.util.List;
import java.util.Set;
import java.util.TreeSet;
import java.util.regex.Matcher;
import java.util.regex.Pattern;

/** The face of the document, and those rules of LANGUAGE.md that can be seen from outside or in the text. */
public final class LanguageTest {
    private static final Checks C = new Checks();
    private static final String[] FACE = {"leg4", "cut1", "about3", "nap3", "owed4", "risk5", "say1", "wipe0", "fault0",
        "judge4", "best5", "does5", "logged4", "thumb4", "worth4", "round2", "soonest4", "two3", "share2", "up3",
        "trust2", "draw4", "image1", "restore1", "told1"};
    private static final String[] CONSTANTS = {"UNKNOWN", "OUTSIDE", "STATE", "FULL", "NO", "NONE"};

    public static void main(String[] args) throws IOException {
        theFace();
        classesInside();
        staticFields();
        words();
        C.end("LanguageTest");
    }

    private static void theFace() {
        Class<?> c = NapVoyage.class;
        C.holds("rule 1: public and final", Modifier.isPublic(c.getModifiers()) && Modifier.isFinal(c.getModifiers()));
        Set<String> open = new TreeSet<>();
        for (Method m : c.getDeclaredMethods()) {
            if (!Modifier.isPrivate(m.getModifiers())) {
                open.add(m.getName() + m.getParameterCount());
                C.holds("rule 1: public, no static: " + m, Modifier.isPublic(m.getModifiers()) && !Modifier.isStatic(m.getModifiers()));
                C.holds("rule 1: int of ints: " + m, m.getReturnType() == int.class && ofInts(m));
            }
        }
        C.holds("rule 1: the methods of the document", open.equals(new TreeSet<>(List.of(FACE))));
        Set<String> fields = new TreeSet<>();
        for (Field f : c.getDeclaredFields()) {
            if (!Modifier.isPrivate(f.getModifiers())) {
                fields.add(f.getName());
            }
        }
        C.holds("rule 1: the constants of the document", fields.equals(new TreeSet<>(List.of(CONSTANTS))));
        Constructor<?>[] made = c.getDeclaredConstructors();
        C.holds("rule 1: one constructor, public, without parameters",
            made.length == 1 && Modifier.isPublic(made[0].getModifiers()) && made[0].getParameterCount() == 0);
    }

    private static boolean ofInts(Method m) {
        for (Class<?> p : m.getParameterTypes()) {
            if (p != int.class) {
                return false;
            }
        }
        return true;
    }

    private static void classesInside() {
        Set<String> face = new HashSet<>();
        for (String name : FACE) {
            face.add(name.substring(0, name.length() - 1));
        }
        Class<?>[] inside = NapVoyage.class.getDeclaredClasses();
        C.holds("rule 11: at most twelve classes", inside.length + 1 <= 12);
        for (Class<?> c : inside) {
            C.holds("rule 1: static, not public: " + c, Modifier.isStatic(c.getModifiers())
                && !Modifier.isPublic(c.getModifiers()) && !Modifier.isProtected(c.getModifiers()));
            for (Method m : c.getDeclaredMethods()) {
                C.holds("rule 1: no other method bears a name of the face: " + m, !face.contains(m.getName()));
            }
        }
        for (Method m : NapVoyage.class.getDeclaredMethods()) {
            C.holds("rule 1: no private method bears a name of the face: " + m,
                !Modifier.isPrivate(m.getModifiers()) || !face.contains(m.getName()));
        }
    }

    private static void staticFields() {
        Set<Class<?>> classes = new HashSet<>(List.of(NapVoyage.class.getDeclaredClasses()));
        classes.add(NapVoyage.class);
        for (Class<?> c : classes) {
            int own = 0;
            for (Field f : c.getDeclaredFields()) {
                own += Modifier.isStatic(f.getModifiers()) ? 0 : 1;
                C.holds("rule 5: static fields are final: " + f, !Modifier.isStatic(f.getModifiers()) || isFinal(f));
            }
            C.holds("rule 11: at most twenty fields: " + c, own <= 20);
            for (Method m : c.getDeclaredMethods()) {
                C.holds("rule 11: at most seven parameters: " + m, m.getParameterCount() <= 7);
            }
        }
    }

    private static boolean isFinal(Member m) {
        return Modifier.isFinal(m.getModifiers());
    }

    private static void words() throws IOException {
        String text = Files.readString(Path.of("src/main/java/NapVoyage.java"));
        String code = text.replaceAll("(?s)/\\*.*?\\*/", " ").replaceAll("//[^\n]*", " ");
        String[] ruledOut = {"throw", "try", "catch", "finally", "synchronized", "assert", "instanceof", "import", "package",
            "volatile", "transient", "native", "strictfp", "double", "float", "var", "yield", "Object", "Random", "Thread",
            "Exact", "hashCode", "toString", "getClass", "identityHashCode", "nanoTime", "currentTimeMillis"};
        for (String word : ruledOut) {
            C.holds("rules 3, 4, 6, 13: no " + word, !Pattern.compile("\\b" + word + "\\b|" + word + "\\(").matcher(code).find());
        }
        C.holds("rule 2: no lambda, no method reference", !code.contains("->") && !code.contains("::"));
        C.holds("rule 5: no static initialiser", !Pattern.compile("static\\s*\\{").matcher(code).find());
        C.holds("rule 3: signs of the text are 1 to 127", text.chars().allMatch(sign -> sign >= 1 && sign <= 127));
        Set<String> library = new TreeSet<>();
        Matcher calls = Pattern.compile("\\b(Math|System|Arrays|Integer|Long|String|List)\\.(\\w+)").matcher(code);
        while (calls.find()) {
            library.add(calls.group());
        }
        C.holds("rule 4: the library, " + library,
            Set.of("Math.min", "Math.max", "System.arraycopy").containsAll(library));
    }
}
