import java.io.IOException;
import java.lang.reflect.InvocationTargetException;
import java.lang.reflect.Method;
import java.lang.reflect.Modifier;
import java.nio.file.Files;
import java.nio.file.Path;
import java.util.HashMap;
import java.util.Map;
import java.util.Set;
import java.util.TreeSet;
import java.util.regex.Matcher;
import java.util.regex.Pattern;

/** README.md: the calls it shows, made one behind another on one object, answer what it says; none of the face is missing. */
public final class ReadmeTest {
    private static final Checks C = new Checks();
    private static final Pattern CALL = Pattern.compile("x\\.(\\w+)\\((.*?)\\);\\s*// (-?\\d+)(:.*)?");

    public static void main(String[] args) throws IOException, IllegalAccessException, InvocationTargetException {
        Map<String, Method> face = face();
        Set<String> missing = new TreeSet<>(face.keySet());
        NapVoyage x = new NapVoyage();
        for (String line : Files.readAllLines(Path.of("README.md"))) {
            if (line.startsWith("x.")) {
                Matcher shown = CALL.matcher(line);
                boolean read = shown.matches() && face.containsKey(shown.group(1));
                C.holds("a call with its answer: " + line, read);
                if (read) {
                    int got = (int) face.get(shown.group(1)).invoke(x, numbersOf(shown.group(2)));
                    C.due(line, got, Integer.parseInt(shown.group(3)));
                    missing.remove(shown.group(1));
                }
            }
        }
        C.holds("every call of the face is shown, but for " + missing, missing.isEmpty());
        C.end("ReadmeTest");
    }

    private static Map<String, Method> face() {
        Map<String, Method> face = new HashMap<>();
        for (Method m : NapVoyage.class.getDeclaredMethods()) {
            if (Modifier.isPublic(m.getModifiers())) {
                face.put(m.getName(), m);
            }
        }
        return face;
    }

    private static Object[] numbersOf(String list) {
        if (list.isEmpty()) {
            return new Object[0];
        }
        String[] parts = list.split(", ");
        Object[] numbers = new Object[parts.length];
        for (int i = 0; i < parts.length; i++) {
            numbers[i] = parts[i].startsWith("'") ? (int) parts[i].charAt(1) : Integer.parseInt(parts[i]);
        }
        return numbers;
    }
}
