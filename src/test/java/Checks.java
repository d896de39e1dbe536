/** What the tests share: counts answers that are not as due, and ends with exit code 1 if there was one. */
final class Checks {
    private int wrong = 0;
    private int asked = 0;

    void due(String call, long got, long want) {
        asked++;
        if (got != want) {
            wrong++;
            System.out.println(call + " answered " + got + ", due is " + want);
        }
    }

    void holds(String what, boolean it) {
        asked++;
        if (!it) {
            wrong++;
            System.out.println("does not hold: " + what);
        }
    }

    void end(String name) {
        System.out.println(name + ": " + asked + " asked, " + wrong + " wrong");
        if (wrong != 0 || asked == 0) {
            System.exit(1);
        }
    }

    static void write(NapVoyage x, String log) {
        for (int i = 0; i < log.length(); i++) {
            x.say(log.charAt(i));
        }
    }

    static void rewrite(NapVoyage x, String log) {
        x.wipe();
        write(x, log);
    }

    /** A new object with LEGS, each told as its WAY, HOURS, SHIPS and SQUALL. */
    static NapVoyage of(int[]... legs) {
        NapVoyage x = new NapVoyage();
        for (int[] leg : legs) {
            x.leg(leg[0], leg[1], leg[2], leg[3]);
        }
        return x;
    }

    static int[] leg(int way, int hours, int ships, int squall) {
        return new int[] {way, hours, ships, squall};
    }

    /** SAFE of a row of RISKS. */
    static int safe(int... risks) {
        long safe = 1000000;
        for (int i = risks.length - 1; i >= 0; i--) {
            safe = safe * (1000000 - risks[i]) / 1000000;
        }
        return (int) safe;
    }

    private static final int[] EXTREMES = {Integer.MIN_VALUE, Integer.MIN_VALUE + 1, -1000000, Integer.MAX_VALUE - 1,
        Integer.MAX_VALUE, 1000001, 1 << 30, -(1 << 30)};

    static int[] extremes() {
        return EXTREMES.clone();
    }
}
