import java.util.Random;

/** Runs of calls drawn from fixed seeds, on the class and on the Model: all answers must be alike. */
public final class RandomRunsTest {
    private static final Checks C = new Checks();
    private static final String[] LOGS = {"w", "1", "2", "3.", "l", "!1", "!2", "!3.", "!l"};

    private final Random random;
    private final NapVoyage x = new NapVoyage();
    private final Model y = new Model();
    private final int run;

    private RandomRunsTest(int run) {
        this.run = run;
        random = new Random(run);
    }

    public static void main(String[] args) {
        int runs = args.length > 0 ? Integer.parseInt(args[0]) : 200;
        for (int run = 0; run < runs; run++) {
            new RandomRunsTest(run).go();
        }
        C.end("RandomRunsTest");
    }

    // Short WAYS mostly: the Model is slow, and most edges are near.
    private void go() {
        boolean large = run % 40 == 0;
        int calls = large ? 60 : 300;
        for (int i = 0; i < calls; i++) {
            int kind = random.nextInt(34);
            if (kind < 4) {
                leg(large);
            } else if (kind < 8) {
                writeLog();
            } else {
                call(kind - 8);
            }
        }
    }

    private void alike(String call, int got, int want) {
        C.due("run " + run + ": " + call, got, want);
    }

    /** Within 0 to most nearly always, sometimes just beyond, rarely far off. */
    private int upTo(int most) {
        int dice = random.nextInt(60);
        if (dice == 0) return -1;
        if (dice == 1) return most + 1;
        if (dice == 2) return random.nextInt();
        if (dice < 8) return most;
        return random.nextInt(most + 1);
    }

    private void leg(boolean large) {
        int a = upTo(1);
        int b = large ? upTo(24) : 1 + upTo(5);
        int c = random.nextInt(3) == 0 ? 0 : upTo(random.nextBoolean() ? 500 : 60);
        int d = random.nextInt(3) == 0 ? upTo(1) : 0;
        alike("leg " + a + " " + b + " " + c + " " + d, x.leg(a, b, c, d), y.leg(a, b, c, d));
    }

    private void writeLog() {
        if (random.nextBoolean()) {
            alike("wipe", x.wipe(), y.wipe());
        }
        int n = random.nextInt(12);
        for (int i = 0; i < n; i++) {
            String thing = random.nextInt(3) == 0 ? LOGS[random.nextInt(LOGS.length)] : LOGS[random.nextInt(5)];
            for (char sign : thing.toCharArray()) {
                alike("say " + sign, x.say(sign), y.say(sign));
            }
        }
        if (random.nextInt(8) == 0) {
            int sign = random.nextBoolean() ? "w123l.!".charAt(random.nextInt(7)) : 30 + random.nextInt(100);
            alike("say " + sign, x.say(sign), y.say(sign));
        }
        alike("fault", x.fault(), y.fault());
    }

    private void call(int kind) {
        int way = upTo(1);
        int hour = upTo(way == 0 || way == 1 ? y.told(3 + way) : 5);
        int owed = upTo(20);
        int battery = upTo(random.nextBoolean() ? 4 : 24);
        String with = kind + ": " + way + " " + hour + " " + owed + " " + battery + " ";
        int e = upTo(4);
        switch (kind) {
            case 0 -> alike("cut " + with, x.cut(way), y.cut(way));
            case 1 -> alike("about " + with + e, x.about(way, e, upToWhat(3)), y.about(way, e, lastWhat));
            case 2 -> nap();
            case 3 -> alike("owed " + with + e, x.owed(way, hour, owed, e), y.owed(way, hour, owed, e));
            case 4 -> {
                int bell = upTo(1);
                alike("risk " + with + e + bell, x.risk(way, hour, owed, e, bell), y.risk(way, hour, owed, e, bell));
            }
            case 5, 6 -> {
                for (int what = 0; what <= 6; what++) {
                    alike("judge " + with + what, x.judge(way, owed, battery, what), y.judge(way, owed, battery, what));
                }
            }
            case 7, 8 -> alike("best " + with + e, x.best(way, hour, owed, battery, e), y.best(way, hour, owed, battery, e));
            case 9, 10 -> alike("does " + with + e, x.does(way, hour, owed, battery, e), y.does(way, hour, owed, battery, e));
            case 11 -> {
                for (int i = -4; i <= 24; i++) {
                    alike("logged " + with + i, x.logged(way, owed, battery, i), y.logged(way, owed, battery, i));
                }
            }
            case 12, 13 -> {
                int rule = upTo(3);
                for (int what = -1; what <= 3; what++) {
                    alike("thumb " + with + rule + what, x.thumb(way, rule, owed, what), y.thumb(way, rule, owed, what));
                }
            }
            case 14 -> {
                int more = upTo(12);
                alike("worth " + with + more, x.worth(way, owed, battery, more), y.worth(way, owed, battery, more));
            }
            case 15 -> alike("round " + with, x.round(owed, battery), y.round(owed, battery));
            case 16 -> soonest(way, owed, battery);
            default -> callMore(kind, way, owed, battery);
        }
    }

    private int lastWhat;

    private int upToWhat(int most) {
        lastWhat = upTo(most);
        return lastWhat;
    }

    private void nap() {
        int a = 1 + upTo(2);
        int b = upTo(1);
        int c = upTo(b == 0 ? 9 : 1000);
        alike("nap " + a + " " + b + " " + c, x.nap(a, b, c), y.nap(a, b, c));
    }

    private void soonest(int way, int owed, int battery) {
        int safe = upTo(1000000);
        if (random.nextInt(3) > 0 && (way == 0 || way == 1)) {
            // Close to what some LIES make, where the answer turns.
            safe = y.best(way, 0, owed, battery, random.nextInt(5)) + random.nextInt(2);
        }
        alike("soonest " + way + " " + owed + " " + battery + " " + safe,
            x.soonest(way, owed, battery, safe), y.soonest(way, owed, battery, safe));
    }

    private void callMore(int kind, int way, int owed, int battery) {
        String with = way + " " + owed + " " + battery + " ";
        switch (kind) {
            case 17 -> {
                for (int turn = 0; turn <= 7; turn++) {
                    alike("two " + with + turn, x.two(way, owed, turn), y.two(way, owed, turn));
                }
            }
            case 18 -> alike("share " + with, x.share(way, owed), y.share(way, owed));
            case 19 -> {
                int g = upTo(1000);
                int c = upTo(random.nextBoolean() ? 10000 : 300);
                alike("up " + g + " " + c + " " + owed, x.up(g, c, owed), y.up(g, c, owed));
                alike("trust " + c + " " + owed, x.trust(c, owed), y.trust(c, owed));
            }
            case 20, 21 -> {
                for (int i = 0; i < 10; i++) {
                    int seed = upTo(9999);
                    alike("draw " + with + seed, x.draw(way, owed, battery, seed), y.draw(way, owed, battery, seed));
                }
            }
            case 22 -> alike("image " + way, x.image(way), y.image(way));
            case 23 -> alike("restore " + way, x.restore(way), y.restore(way));
            case 24 -> alike("wipe", x.wipe(), y.wipe());
            default -> {
                for (int what = -1; what <= 11; what++) {
                    alike("told " + what, x.told(what), y.told(what));
                }
            }
        }
    }
}
