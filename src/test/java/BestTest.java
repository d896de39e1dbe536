/** Promises 12 to 18: best, does, logged, thumb, worth, round, soonest. */
public final class BestTest {
    private static final int UNKNOWN = -1, OUTSIDE = -2, NONE = -6;
    private static final Checks C = new Checks();

    public static void main(String[] args) {
        best();
        bestOfAllRows();
        bestAnew();
        bestOfTheLongest();
        bestRefused();
        does();
        doesTies();
        doesRefused();
        logged();
        loggedIsBest();
        loggedRefused();
        thumb();
        thumbLoses();
        thumbRefused();
        worth();
        round();
        soonest();
        soonestRefused();
        C.end("BestTest");
    }

    private static NapVoyage of(int[]... legs) {
        return Checks.of(legs);
    }

    private static void best() {
        NapVoyage x = of(new int[] {0, 2, 500, 0});
        C.due("12: two WATCHES", x.best(0, 0, 0, 0, 0), 980100);
        C.due("12: one WATCH", x.best(0, 1, 0, 0, 0), 990000);
        C.due("12: at the end", x.best(0, 2, 20, 24, 4), 1000000);
        C.due("12: of a WAY without HOURS", x.best(1, 0, 20, 24, 4), 1000000);
        C.due("12: owing 20", x.best(0, 1, 20, 0, 0), 940000);
        x.nap(1, 1, 10);
        C.due("12: a NAP that sees more", x.best(0, 1, 0, 0, 0), 995000);
        C.due("12: and with the BELL", x.best(0, 1, 0, 1, 0), 998000);
        // LIE never pays in the last HOUR of few owed: 300 is more than what WATCH loses.
        C.due("12: LIES allowed, none done", x.best(0, 1, 0, 0, 4), 995000);
    }

    private static void bestAnew() {
        NapVoyage x = of(new int[] {0, 1, 500, 0});
        C.due("12: ahead of a change", x.best(0, 0, 0, 3, 2), 990000);
        x.leg(0, 1, 500, 0);
        C.due("12: behind one LEG more", x.best(0, 0, 0, 3, 2), 980100);
        x.cut(0);
        C.due("12: behind one LEG less", x.best(0, 0, 0, 3, 2), 990000);
        x.nap(2, 1, 0);
        C.due("12: behind a NAP that is not DEEP", x.best(0, 0, 0, 3, 2), 1000000);
        x.nap(2, 1, 500);
        x.image(0);
        x.cut(0);
        x.leg(0, 1, 400, 0);
        C.due("12: of other SHIPS", x.best(0, 0, 0, 3, 2), 992000);
        x.restore(0);
        C.due("12: behind an IMAGE", x.best(0, 0, 0, 3, 2), 990000);
        NapVoyage y = of(new int[] {0, 3, 500, 0}, new int[] {0, 1, 0, 0});
        y.nap(1, 1, 0);
        y.nap(1, 0, 0);
        C.due("12: a NAP that gives nothing", y.best(0, 0, 10, 0, 0), 1000000);
        C.due("12: less BATTERY asked behind more", y.best(0, 1, 3, 24, 4) - y.best(0, 1, 3, 0, 0), 0);
    }

    /** 48 HOURS, all of them SQUALL but the first one. */
    private static NapVoyage longest() {
        return of(new int[] {0, 1, 0, 0}, new int[] {0, 24, 500, 1}, new int[] {0, 23, 500, 1});
    }

    private static void bestOfTheLongest() {
        NapVoyage x = longest();
        long safe = 1000000;
        for (int hour = 47; hour >= 1; hour--) {
            // Owing 0 in HOUR 1, 2 more in each that follows.
            int owed = Math.min(20, 2 * (hour - 1));
            safe = safe * (1000000 - 500 * (20 + 10 * Math.max(0, owed - 10))) / 1000000;
        }
        C.due("12: of 48 HOURS", x.best(0, 1, 0, 24, 4), safe);
        C.due("12: and a NAP ahead", x.best(0, 0, 2, 24, 4), safe);
        C.due("12: the last of them", x.best(0, 47, 10, 24, 4), 990000);
        C.due("12: their end", x.best(0, 48, 20, 24, 4), 1000000);
        C.due("12: behind it", x.best(0, 49, 20, 24, 4), OUTSIDE);
        NapVoyage z = of(new int[] {0, 1, 10, 0}, new int[] {0, 1, 500, 1});
        for (int nap = 1; nap <= 3; nap++) {
            z.nap(nap, 0, 0);
            z.nap(nap, 1, 1000);
        }
        // NAPS give nothing: owing 20, WATCH by 120 twice. Nothing else makes way.
        C.due("12: no THINGS but those of the document", z.best(0, 0, 20, 24, 0), (1000000 - 1200) * 94L / 100);
        NapVoyage y = of(new int[] {0, 1, 500, 0}, new int[] {0, 1, 0, 0}, new int[] {1, 1, 0, 0}, new int[] {1, 1, 500, 0});
        y.nap(3, 1, 10);
        C.due("12: NAP 3, SHIPS in its first HOUR", y.best(0, 0, 0, 0, 0), 995000);
        C.due("12: NAP 3, SHIPS in its second HOUR", y.best(1, 0, 0, 0, 0), 995000);
    }

    /** All rows to the end, told as LOGS and JUDGED: none is safer than BEST, and one is as safe. */
    private static void bestOfAllRows() {
        NapVoyage x = of(new int[] {0, 1, 300, 0}, new int[] {0, 1, 0, 0}, new int[] {0, 1, 500, 1}, new int[] {0, 2, 90, 0},
            new int[] {1, 2, 500, 0}, new int[] {1, 2, 20, 0});
        x.nap(1, 1, 60);
        x.nap(3, 1, 90);
        for (int way = 0; way <= 1; way++) {
            for (int owed = 0; owed <= 20; owed += 5) {
                for (int battery = 0; battery <= 2; battery++) {
                    for (int lies = 0; lies <= 2; lies++) {
                        C.due("12: best of all rows, way " + way + ", " + owed + ", " + battery + ", " + lies,
                            x.best(way, 0, owed, battery, lies), safest(x, way, owed, battery, lies, ""));
                    }
                }
            }
        }
    }

    private static int safest(NapVoyage x, int way, int owed, int battery, int lies, String log) {
        Checks.rewrite(x, log);
        if (x.judge(way, owed, battery, 0) != NONE) {
            return -1;
        }
        if (x.judge(way, owed, battery, 5) == x.told(3 + way)) {
            return x.judge(way, owed, battery, 3);
        }
        int most = -1;
        for (String thing : new String[] {"w", "1", "2", "3.", "!1", "!2", "!3."}) {
            most = Math.max(most, safest(x, way, owed, battery, lies, log + thing));
        }
        if (lies > 0) {
            most = Math.max(most, safest(x, way, owed, battery, lies - 1, log + "l"));
            most = Math.max(most, safest(x, way, owed, battery, lies - 1, log + "!l"));
        }
        return most;
    }

    private static void bestRefused() {
        NapVoyage x = of(new int[] {0, 5, 100, 0});
        C.due("12: way 2", x.best(2, 0, 0, 0, 0), UNKNOWN);
        C.due("12: unknown is ahead of outside", x.best(-1, 9, 21, 25, 5), UNKNOWN);
        C.due("12: hour 6 of 5", x.best(0, 6, 0, 0, 0), OUTSIDE);
        C.due("12: hour -1", x.best(0, -1, 0, 0, 0), OUTSIDE);
        C.due("12: hour 1 of none", x.best(1, 1, 0, 0, 0), OUTSIDE);
        C.due("12: owed 21", x.best(0, 0, 21, 0, 0), OUTSIDE);
        C.due("12: owed -1", x.best(0, 0, -1, 0, 0), OUTSIDE);
        C.due("12: battery 25", x.best(0, 0, 0, 25, 0), OUTSIDE);
        C.due("12: battery -1", x.best(0, 0, 0, -1, 0), OUTSIDE);
        C.due("12: lies 5", x.best(0, 0, 0, 0, 5), OUTSIDE);
        C.due("12: lies -1", x.best(0, 0, 0, 0, -1), OUTSIDE);
        C.due("12: outside at the end too", x.best(0, 5, 21, 0, 0), OUTSIDE);
        for (int far : Checks.extremes()) {
            C.due("12: way " + far, x.best(far, 0, 0, 0, 0), UNKNOWN);
            C.due("12: hour " + far, x.best(0, far, 0, 0, 0), OUTSIDE);
            C.due("12: owed " + far, x.best(0, 0, far, 0, 0), OUTSIDE);
            C.due("12: battery " + far, x.best(0, 0, 0, far, 0), OUTSIDE);
            C.due("12: lies " + far, x.best(0, 0, 0, 0, far), OUTSIDE);
        }
    }

    private static void does() {
        NapVoyage x = of(new int[] {0, 2, 500, 0}, new int[] {1, 1, 500, 0});
        C.due("13: WATCH", x.does(0, 0, 0, 0, 0), 0);
        C.due("13: at the end", x.does(0, 2, 0, 0, 0), NONE);
        x.nap(1, 1, 10);
        C.due("13: NAP 1", x.does(0, 1, 0, 0, 0), 1);
        C.due("13: NAP 1 with the BELL", x.does(0, 1, 0, 1, 0), 11);
        // Owing 15, that NAP is BLIND by 110 and WATCH by 70.
        C.due("13: the BELL is not heard", x.does(0, 1, 15, 1, 0), 0);
        x.nap(1, 1, 200);
        x.nap(2, 1, 10);
        C.due("13: NAP 2", x.does(0, 1, 0, 0, 0), 2);
        C.due("13: NAP 2 with the BELL", x.does(0, 1, 0, 1, 0), 12);
        x.nap(2, 1, 500);
        x.nap(3, 1, 10);
        C.due("13: NAP 3", x.does(0, 0, 0, 0, 0), 3);
        C.due("13: NAP 3 with the BELL", x.does(0, 0, 0, 2, 0), 13);
        C.due("13: BATTERY 1 is too little for it", x.does(0, 0, 0, 1, 0), 3);
        C.due("13: NAP 3 can not be in the last HOUR", x.does(0, 1, 0, 0, 0), 0);
    }

    private static void doesTies() {
        NapVoyage x = of(new int[] {0, 3, 0, 0}, new int[] {1, 1, 500, 0}, new int[] {1, 1, 500, 1}, new int[] {1, 2, 500, 0});
        C.due("13: without SHIPS all are alike, WATCH is first", x.does(0, 0, 20, 24, 4), 0);
        x.nap(1, 1, 0);
        C.due("13: NAPS that see all: WATCH does not", x.does(1, 2, 0, 24, 4), 1);
        C.due("13: alike without the BELL is ahead of with it", x.does(1, 3, 0, 24, 4), 1);
        x.nap(2, 1, 0);
        x.nap(3, 1, 0);
        C.due("13: of NAPS that are alike the first", x.does(1, 2, 0, 24, 4), 1);
        x.nap(1, 1, 1);
        C.due("13: NAP 2 is ahead of 3", x.does(1, 2, 0, 0, 4), 2);
        C.due("13: NAP 1 with the BELL is ahead of 2, its BLIND being cut to 0", x.does(1, 2, 0, 24, 4), 11);
        C.due("13: in a SQUALL WATCH alone", x.does(1, 1, 9, 24, 4), 0);
        // Owing 20 ahead of a SQUALL of 2 HOURS with all the SHIPS: LIES without SHIPS cost nothing.
        NapVoyage y = of(new int[] {0, 1, 0, 0}, new int[] {0, 2, 500, 1});
        C.due("13: LIE", y.does(0, 0, 20, 0, 4), 4);
        C.due("13: no LIES, a NAP of 2", y.does(0, 0, 20, 0, 0), 2);
        C.due("13: no LIES help who owes 0", y.does(0, 0, 0, 0, 4), 0);
        y.cut(0);
        y.cut(0);
        y.leg(0, 1, 30, 0);
        y.leg(0, 6, 500, 1);
        C.due("13: LIE with the BELL", y.does(0, 0, 14, 4, 4) % 10, 4);
        C.due("13: LIE with the BELL, 10 more", y.does(0, 0, 14, 4, 1), 14);
    }

    private static void doesRefused() {
        NapVoyage x = of(new int[] {0, 5, 100, 0});
        C.due("13: way 2", x.does(2, 0, 0, 0, 0), UNKNOWN);
        C.due("13: unknown is ahead of outside", x.does(2, 9, 21, 25, 5), UNKNOWN);
        C.due("13: hour 6 of 5", x.does(0, 6, 0, 0, 0), OUTSIDE);
        C.due("13: owed 21", x.does(0, 5, 21, 0, 0), OUTSIDE);
        C.due("13: battery 25", x.does(0, 5, 0, 25, 0), OUTSIDE);
        C.due("13: lies 5", x.does(0, 5, 0, 0, 5), OUTSIDE);
        C.due("13: of a WAY without HOURS", x.does(1, 0, 0, 0, 0), NONE);
        for (int far : Checks.extremes()) {
            C.due("13: way " + far, x.does(far, 0, 0, 0, 0), UNKNOWN);
            C.due("13: hour " + far, x.does(0, far, 0, 0, 0), OUTSIDE);
            C.due("13: owed " + far, x.does(0, 0, far, 0, 0), OUTSIDE);
            C.due("13: battery " + far, x.does(0, 0, 0, far, 0), OUTSIDE);
            C.due("13: lies " + far, x.does(0, 0, 0, 0, far), OUTSIDE);
        }
    }

    private static void logged() {
        NapVoyage x = of(new int[] {0, 1, 0, 0}, new int[] {0, 2, 500, 1});
        // Owing 20: four LIES, then NAP 2 to 14, then WATCH and WATCH.
        int[] due = {4, 4, 4, 4, 2, 0, 0};
        C.due("14: how many", x.logged(0, 20, 0, -1), due.length);
        for (int i = 0; i < due.length; i++) {
            C.due("14: logged " + i, x.logged(0, 20, 0, i), due[i]);
        }
        C.due("14: beyond", x.logged(0, 20, 0, due.length), NONE);
        C.due("14: far beyond", x.logged(0, 20, 0, Integer.MAX_VALUE), NONE);
        // No range is told for i: a place too low has no THING, as one too high has none.
        C.due("14: ahead of the first", x.logged(0, 20, 0, -2), NONE);
        C.due("14: far ahead of it", x.logged(0, 20, 0, Integer.MIN_VALUE), NONE);
        C.due("14: of no HOURS", x.logged(1, 20, 0, -1), 0);
        C.due("14: of no HOURS, ahead of the first", x.logged(1, 20, 0, -3), NONE);
        C.due("14: the first of no HOURS", x.logged(1, 20, 0, 0), NONE);
        NapVoyage z = longest();
        C.due("14: the longest of all", z.logged(0, 20, 0, -1), 52);
        C.due("14: its last LIE", z.logged(0, 20, 0, 3), 4);
        C.due("14: its NAP", z.logged(0, 20, 0, 4), 2);
        C.due("14: its last THING", z.logged(0, 20, 0, 51), 0);
        C.due("14: behind it", z.logged(0, 20, 0, 52), NONE);
        NapVoyage y = of(new int[] {1, 4, 100, 0});
        y.nap(3, 1, 0);
        C.due("14: NAP 3 twice", y.logged(1, 5, 0, -1), 2);
        C.due("14: NAP 3", y.logged(1, 5, 0, 1), 3);
    }

    /** LOGGED written as a LOG and JUDGED is as safe as BEST. */
    private static void loggedIsBest() {
        NapVoyage x = of(new int[] {0, 10, 90, 0}, new int[] {0, 3, 400, 1}, new int[] {0, 12, 10, 0}, new int[] {0, 5, 500, 1});
        x.nap(1, 1, 40);
        x.nap(3, 1, 100);
        String[] text = {"w", "1", "2", "3.", "l"};
        for (int owed = 0; owed <= 20; owed += 4) {
            for (int battery = 0; battery <= 24; battery += 6) {
                x.wipe();
                int things = x.logged(0, owed, battery, -1);
                for (int i = 0; i < things; i++) {
                    int code = x.logged(0, owed, battery, i);
                    Checks.write(x, (code >= 10 ? "!" : "") + text[code % 10]);
                }
                C.due("14: it can be", x.judge(0, owed, battery, 0), NONE);
                C.due("14: it goes to the end", x.judge(0, owed, battery, 5), 30);
                C.due("14: it is as safe as BEST", x.judge(0, owed, battery, 3), x.best(0, 0, owed, battery, 4));
            }
        }
    }

    private static void loggedRefused() {
        NapVoyage x = of(new int[] {0, 5, 100, 0});
        C.due("14: way 2", x.logged(2, 0, 0, 0), UNKNOWN);
        C.due("14: unknown is ahead of outside", x.logged(-1, 21, 25, -2), UNKNOWN);
        C.due("14: owed 21", x.logged(0, 21, 0, 0), OUTSIDE);
        C.due("14: owed -1", x.logged(0, -1, 0, 0), OUTSIDE);
        C.due("14: battery 25", x.logged(0, 0, 25, 0), OUTSIDE);
        C.due("14: battery -1", x.logged(0, 0, -1, 0), OUTSIDE);
        C.due("14: outside of a WAY without HOURS", x.logged(1, 21, 0, -1), OUTSIDE);
        C.due("14: outside is ahead of none, i too low", x.logged(0, 21, 0, -2), OUTSIDE);
        C.due("14: outside is ahead of none, i too high", x.logged(0, 0, 25, 99), OUTSIDE);
        for (int far : Checks.extremes()) {
            C.due("14: way " + far, x.logged(far, 0, 0, 0), UNKNOWN);
            C.due("14: owed " + far, x.logged(0, far, 0, 0), OUTSIDE);
            C.due("14: battery " + far, x.logged(0, 0, far, 0), OUTSIDE);
        }
    }

    /** A THUMB is as the LOG that it makes. */
    private static void thumbIs(NapVoyage x, int rule, int owed, String log) {
        Checks.rewrite(x, log);
        C.due("15: " + log + " goes to the end", x.judge(0, owed, 0, 5), x.told(3));
        C.due("15: thumb " + rule + " from " + owed + " is " + log, x.thumb(0, rule, owed, 0), x.judge(0, owed, 0, 3));
        C.due("15: OWED of thumb " + rule + " from " + owed, x.thumb(0, rule, owed, 2), x.judge(0, owed, 0, 2));
    }

    private static void thumb() {
        NapVoyage x = of(new int[] {0, 4, 50, 0}, new int[] {0, 2, 90, 1}, new int[] {0, 4, 49, 0}, new int[] {0, 5, 300, 0});
        thumbIs(x, 0, 0, "w1w1www1w1w1w1w");
        thumbIs(x, 0, 20, "w1w1www1w1w1w1w");
        thumbIs(x, 1, 7, "w3.www" + "w3.w" + "wwwww");
        thumbIs(x, 1, 8, "3.wwww" + "3.ww" + "wwww2");
        thumbIs(x, 1, 20, "3.3.ww3.www3.ww");
        thumbIs(x, 2, 0, "wwwwww3.wwwwwww");
        thumbIs(x, 2, 20, "wwwwww3.3.wwwww");
        thumbIs(x, 3, 0, "wwwwwwwwwwww" + "3.2");
        NapVoyage z = of(new int[] {0, 6, 49, 0});
        thumbIs(z, 2, 3, "w3.www");
        thumbIs(z, 2, 4, "3.wwww");
        thumbIs(z, 1, 8, "3.wwww");
        NapVoyage y = of(new int[] {0, 11, 40, 0}, new int[] {0, 2, 40, 0}, new int[] {0, 1, 40, 1}, new int[] {0, 12, 40, 0});
        thumbIs(y, 3, 0, "wwwwwwwwwwww" + "2w" + "3.3.w3.w3." + "ww");
        thumbIs(y, 1, 20, "3.3.3.wwwwww" + "2w" + "w3.wwwwwww" + "3.");
        C.due("15: of no HOURS, SAFE", y.thumb(1, 1, 9, 0), 1000000);
        C.due("15: of no HOURS, LOSES", y.thumb(1, 1, 9, 1), 0);
        C.due("15: of no HOURS, OWED", y.thumb(1, 1, 9, 2), 9);
    }

    private static void thumbLoses() {
        NapVoyage x = of(new int[] {0, 2, 500, 0});
        C.due("15: SAFE", x.thumb(0, 0, 0, 0), 891000);
        C.due("15: LOSES", x.thumb(0, 0, 0, 1), 980100 - 891000);
        C.due("15: what is best loses nothing", x.thumb(0, 1, 0, 1), 0);
        x.nap(1, 1, 10);
        // NAP 1 with the BELL would lose 2000 of 1000000 by HOUR, without it 5000, WATCH 10000.
        C.due("15: LOSES against no BATTERY", x.thumb(0, 1, 0, 1), 990025 - 980100);
        NapVoyage y = of(new int[] {0, 1, 0, 0}, new int[] {0, 2, 500, 1});
        C.due("15: LOSES against 4 LIES and no BATTERY", y.thumb(0, 1, 20, 1), y.best(0, 0, 20, 0, 4) - y.thumb(0, 1, 20, 0));
        C.holds("15: LIES make it more", y.best(0, 0, 20, 0, 4) > y.best(0, 0, 20, 0, 0));
    }

    private static void thumbRefused() {
        NapVoyage x = of(new int[] {0, 5, 100, 0});
        C.due("15: way 2", x.thumb(2, 0, 0, 0), UNKNOWN);
        C.due("15: unknown is ahead of outside", x.thumb(2, 4, 21, 3), UNKNOWN);
        C.due("15: rule 4", x.thumb(0, 4, 0, 0), OUTSIDE);
        C.due("15: rule -1", x.thumb(0, -1, 0, 0), OUTSIDE);
        C.due("15: owed 21", x.thumb(0, 0, 21, 0), OUTSIDE);
        C.due("15: owed -1", x.thumb(0, 0, -1, 0), OUTSIDE);
        C.due("15: what 3", x.thumb(0, 0, 0, 3), OUTSIDE);
        C.due("15: what -1", x.thumb(0, 0, 0, -1), OUTSIDE);
        for (int far : Checks.extremes()) {
            C.due("15: way " + far, x.thumb(far, 0, 0, 0), UNKNOWN);
            C.due("15: rule " + far, x.thumb(0, far, 0, 0), OUTSIDE);
            C.due("15: owed " + far, x.thumb(0, 0, far, 0), OUTSIDE);
            C.due("15: what " + far, x.thumb(0, 0, 0, far), OUTSIDE);
        }
    }

    private static void worth() {
        NapVoyage x = of(new int[] {0, 1, 500, 0});
        x.nap(1, 1, 10);
        C.due("16: a BELL for a NAP", x.worth(0, 0, 0, 1), 998000 - 995000);
        C.due("16: a second one", x.worth(0, 0, 1, 1), 0);
        C.due("16: none more", x.worth(0, 0, 0, 0), 0);
        C.due("16: 24 more", x.worth(0, 0, 0, 24), 3000);
        C.due("16: 24 and 0", x.worth(0, 0, 24, 0), 0);
        C.due("16: way 2", x.worth(2, 0, 0, 0), UNKNOWN);
        C.due("16: unknown is ahead of outside", x.worth(2, 21, 20, 5), UNKNOWN);
        C.due("16: owed 21", x.worth(0, 21, 0, 0), OUTSIDE);
        C.due("16: owed -1", x.worth(0, -1, 0, 0), OUTSIDE);
        C.due("16: 25 together", x.worth(0, 0, 20, 5), OUTSIDE);
        C.due("16: 25 and 0", x.worth(0, 0, 25, 0), OUTSIDE);
        C.due("16: 0 and 25", x.worth(0, 0, 0, 25), OUTSIDE);
        C.due("16: 25 less 1", x.worth(0, 0, 25, -1), OUTSIDE);
        C.due("16: -1 and 1", x.worth(0, 0, -1, 1), OUTSIDE);
        for (int far : Checks.extremes()) {
            C.due("16: way " + far, x.worth(far, 0, 0, 0), UNKNOWN);
            C.due("16: owed " + far, x.worth(0, far, 0, 0), OUTSIDE);
            C.due("16: battery " + far, x.worth(0, 0, far, 0), OUTSIDE);
            C.due("16: more " + far, x.worth(0, 0, 0, far), OUTSIDE);
            C.due("16: both " + far, x.worth(0, 0, far, far), OUTSIDE);
        }
        NapVoyage y = of(new int[] {1, 1, 0, 0}, new int[] {1, 2, 500, 1});
        C.due("16: with 4 LIES", y.worth(1, 20, 0, 5), 0);
    }

    private static void round() {
        NapVoyage x = new NapVoyage();
        C.due("17: both empty are alike", x.round(0, 0), 0);
        x.leg(0, 1, 500, 0);
        C.due("17: none is safer than some", x.round(0, 0), 1);
        x.leg(1, 1, 500, 0);
        C.due("17: alike", x.round(20, 24), 0);
        x.leg(1, 1, 500, 0);
        C.due("17: the shorter one", x.round(20, 24), 0);
        x.cut(0);
        x.leg(0, 24, 1, 0);
        C.due("17: the longer one, of fewer SHIPS", x.round(0, 0), 0);
        x.leg(0, 10, 500, 0);
        C.due("17: the longer one, of more SHIPS", x.round(0, 0), 1);
        NapVoyage y = of(new int[] {0, 1, 0, 0}, new int[] {0, 2, 500, 1}, new int[] {1, 2, 500, 0});
        // Owing 20: by LIES WAY 0 is done owing 14 (60, 80 thousandths), WAY 1 loses 120 of 500 twice.
        C.due("17: by LIES", y.round(20, 0), 0);
        C.due("17: owed 21", x.round(21, 0), OUTSIDE);
        C.due("17: owed -1", x.round(-1, 0), OUTSIDE);
        C.due("17: battery 25", x.round(0, 25), OUTSIDE);
        C.due("17: battery -1", x.round(0, -1), OUTSIDE);
        for (int far : Checks.extremes()) {
            C.due("17: owed " + far, x.round(far, 0), OUTSIDE);
            C.due("17: battery " + far, x.round(0, far), OUTSIDE);
        }
    }

    private static void soonest() {
        NapVoyage x = of(new int[] {0, 1, 0, 0}, new int[] {0, 2, 500, 1});
        // Owing 20, NAP 2 and l LIES: 18 - l behind it; WATCH by 20 + 10 * OVER, twice.
        for (int lies = 0; lies <= 4; lies++) {
            long safe = 1000000;
            safe = safe * (1000000 - 500 * (20 + 10 * (Math.min(20, 20 - lies) - 10))) / 1000000;
            safe = safe * (1000000 - 500 * (20 + 10 * (18 - lies - 10))) / 1000000;
            C.due("18: BEST with " + lies + " LIES", x.best(0, 0, 20, 0, lies), safe);
            C.due("18: just so much", x.soonest(0, 20, 0, (int) safe), 3 + lies);
            C.due("18: one more", x.soonest(0, 20, 0, (int) safe + 1), lies == 4 ? NONE : 4 + lies);
            C.due("18: one less", x.soonest(0, 20, 0, (int) safe - 1), 3 + lies);
        }
        C.due("18: 0", x.soonest(0, 20, 0, 0), 3);
        C.due("18: 1000000", x.soonest(0, 20, 0, 1000000), NONE);
        C.due("18: of no HOURS", x.soonest(1, 20, 0, 1000000), 0);
    }

    private static void soonestRefused() {
        NapVoyage x = of(new int[] {0, 5, 100, 0});
        C.due("18: way 2", x.soonest(2, 0, 0, 0), UNKNOWN);
        C.due("18: unknown is ahead of outside", x.soonest(2, 21, 25, -1), UNKNOWN);
        C.due("18: owed 21", x.soonest(0, 21, 0, 0), OUTSIDE);
        C.due("18: battery 25", x.soonest(0, 0, 25, 0), OUTSIDE);
        C.due("18: safe 1000001", x.soonest(0, 0, 0, 1000001), OUTSIDE);
        C.due("18: safe -1", x.soonest(0, 0, 0, -1), OUTSIDE);
        for (int far : Checks.extremes()) {
            C.due("18: way " + far, x.soonest(far, 0, 0, 0), UNKNOWN);
            C.due("18: owed " + far, x.soonest(0, far, 0, 0), OUTSIDE);
            C.due("18: battery " + far, x.soonest(0, 0, far, 0), OUTSIDE);
            C.due("18: safe " + far, x.soonest(0, 0, 0, far), OUTSIDE);
        }
    }
}
