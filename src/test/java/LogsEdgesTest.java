/**
 * Promises 8 to 11 and part 2 of the Terms at their edges: a method for each sentence that names one,
 * with the sentence above it.
 */
public final class LogsEdgesTest {
    private static final int UNKNOWN = -1, OUTSIDE = -2, FULL = -4, NO = -5, NONE = -6;
    private static final int LEAST = Integer.MIN_VALUE, GREATEST = Integer.MAX_VALUE;
    private static final int FIRST_BAD = 0, TIMES = 1, OWED = 2, SAFE = 3, MOST_RISK = 4, NEXT = 5, LEFT = 6;
    private static final Checks C = new Checks();

    public static void main(String[] args) {
        codes33To126();
        upToSixtySigns();
        wipeTellsHowMany();
        withoutSignsNoFault();
        behind3ADot();
        aDotBehind3Alone();
        theBellAheadOfWhat();
        theFirstSignThatCanNot();
        moreMustCome();
        faultOfSixtySigns();
        judgedWithoutSigns();
        judgedOnNoHours();
        fromHour0On();
        liesAreNotCounted();
        beyondTheEnd();
        theEndOf48Hours();
        notInThatHour();
        tooLittleBattery();
        bellOfNap3TakesTwo();
        ofThoseAheadOfIt();
        timesOfLieAndNap3();
        owedByALog();
        safeFromTheLastBack();
        safeDownToNought();
        theMostRiskTheFirstSuch();
        theMostRiskIsOfTheTimes();
        ranges();
        aFaultIsRefused();
        C.end("LogsEdgesTest");
    }

    private static NapVoyage of(int[]... legs) {
        return Checks.of(legs);
    }

    private static int[] leg(int way, int hours, int ships, int squall) {
        return Checks.leg(way, hours, ships, squall);
    }

    private static NapVoyage with(String log, int[]... legs) {
        NapVoyage x = of(legs);
        Checks.write(x, log);
        return x;
    }

    private static void faultOf(String log, int due) {
        C.due("10: fault of " + log, with(log).fault(), due);
    }

    /** Part 2: "codes 33 to 126"; promise 8: "OUTSIDE". */
    private static void codes33To126() {
        NapVoyage x = new NapVoyage();
        for (int beyond : new int[] {32, 127, 0, -1, 256 + 'w', 65536 + 'w', LEAST, GREATEST}) {
            C.due("8: sign " + beyond, x.say(beyond), OUTSIDE);
            C.due("8: it is not there", x.told(0), 0);
        }
        C.due("8: sign 33", x.say(33), 1);
        C.due("8: sign 126", x.say(126), 2);
        C.due("10: sign 33 is !, sign 126 can not stand", x.fault(), 1);
    }

    /** Part 2: "a text of up to 60 signs"; promise 8: "A sign more: how many .. FULL". */
    private static void upToSixtySigns() {
        NapVoyage x = of(leg(0, 1, 9, 0));
        for (int n = 1; n <= 59; n++) {
            C.due("8: sign " + n, x.say('l'), n);
        }
        C.due("8: the last sign", x.say('w'), 60);
        C.due("8: one more", x.say('w'), FULL);
        C.due("8: one more that is wrong", x.say('?'), FULL);
        C.due("8: one more that is outside", x.say(127), OUTSIDE);
        C.due("8: signs", x.told(0), 60);
        C.due("8: no sign was put in another's stead", x.fault(), NONE);
        C.due("8: all sixty are there", x.judge(0, 0, 0, TIMES), 60);
        C.due("8: in their order", x.judge(0, 0, 0, FIRST_BAD), NONE);
        C.due("8: the last one is w", x.judge(0, 0, 0, NEXT), 1);
    }

    /** Promise 9: "Signs go: how many there were". */
    private static void wipeTellsHowMany() {
        NapVoyage x = of(leg(0, 1, 9, 0));
        C.due("9: of none", x.wipe(), 0);
        x.say('?');
        C.due("9: of one", x.wipe(), 1);
        C.due("9: of none again", x.wipe(), 0);
        Checks.write(x, "l".repeat(60));
        C.due("9: of sixty", x.wipe(), 60);
        C.due("9: no sign is left", x.told(0), 0);
        C.due("9: no fault is left", x.fault(), NONE);
        C.due("9: no HOUR is left", x.judge(0, 0, 0, TIMES), 0);
        Checks.write(x, "w".repeat(60));
        C.due("9: there is room for sixty again", x.told(0), 60);
        C.due("9: and for no more", x.say('w'), FULL);
        C.due("9: the WAY stands", x.told(3), 1);
    }

    /** Part 2: "without signs there is none". */
    private static void withoutSignsNoFault() {
        C.due("10: a new object", new NapVoyage().fault(), NONE);
        NapVoyage x = with("3");
        C.due("10: a sign", x.fault(), 1);
        x.wipe();
        C.due("10: wiped", x.fault(), NONE);
        C.due("11: wiped, it is JUDGED", x.judge(0, 0, 0, FIRST_BAD), NONE);
        C.due("23: wiped, it is DRAWN", x.draw(0, 0, 0, 0), NONE);
    }

    /** Part 2: "(behind 3 .. a .)". */
    private static void behind3ADot() {
        for (char sign = 33; sign <= 126; sign++) {
            faultOf("3" + sign, sign == '.' ? NONE : 1);
            faultOf("w!3" + sign, sign == '.' ? NONE : 3);
        }
        faultOf("3..", 2);
        faultOf("3.3.", NONE);
    }

    /** Part 2: "behind 3, and it alone". */
    private static void aDotBehind3Alone() {
        faultOf(".", 0);
        faultOf("w.", 1);
        faultOf("1.", 1);
        faultOf("2.", 1);
        faultOf("l.", 1);
        faultOf("!.", 1);
        faultOf("!1.", 2);
        faultOf("!2.", 2);
        faultOf("!l.", 2);
        faultOf("3.w.", 3);
    }

    /** Part 2: "! ahead of 1, 2, 3, l: with the BELL". */
    private static void theBellAheadOfWhat() {
        for (char sign = 33; sign <= 126; sign++) {
            boolean whole = sign == '1' || sign == '2' || sign == 'l';
            faultOf("!" + sign, whole ? NONE : sign == '3' ? 2 : 1);
        }
        faultOf("!3.", NONE);
        faultOf("!1!", 3);
        faultOf("!1w", NONE);
        faultOf("3!.", 1);
    }

    /** Part 2: "the place (from 0 on) of the first sign that can not stand there". */
    private static void theFirstSignThatCanNot() {
        for (char sign = 33; sign <= 126; sign++) {
            boolean thing = "w12l".indexOf(sign) >= 0;
            boolean begun = sign == '3' || sign == '!';
            faultOf("" + sign, thing ? NONE : begun ? 1 : 0);
            faultOf("ww" + sign, thing ? NONE : begun ? 3 : 2);
        }
        faultOf("?", 0);
        faultOf("??", 0);
        faultOf("w?w?", 1);
        faultOf("w1?!", 2);
        faultOf("3w!!", 1);
    }

    /** Part 2: "the number of signs, if more must come (a . , a THING behind !)". */
    private static void moreMustCome() {
        faultOf("3", 1);
        faultOf("!", 1);
        faultOf("!3", 2);
        faultOf("w12l3", 5);
        faultOf("w12l!", 5);
        faultOf("w12l!3", 6);
        NapVoyage x = with("!3");
        C.due("10: . mends it", x.say('.') - 3 + x.fault(), NONE);
    }

    /** Parts of "THE FAULT" where the PAD is full and nothing more can come. */
    private static void faultOfSixtySigns() {
        String w = "w".repeat(59);
        faultOf(w + "w", NONE);
        faultOf(w + "3", 60);
        faultOf(w + "!", 60);
        faultOf(w + ".", 59);
        faultOf(w + "?", 59);
        faultOf("w".repeat(58) + "!3", 60);
        faultOf("w".repeat(58) + "3.", NONE);
        faultOf("w".repeat(57) + "!3.", NONE);
        faultOf("?" + w, 0);
        faultOf("!3.".repeat(20), NONE);
        faultOf("3.".repeat(30), NONE);
        faultOf("!1".repeat(30), NONE);
    }

    private static void judged(String what, NapVoyage x, int way, int owed, int battery, int... due) {
        for (int i = 0; i < due.length; i++) {
            C.due("11: " + what + ", what " + i, x.judge(way, owed, battery, i), due[i]);
        }
    }

    /** Promise 11: "0 the first THING that can not be (NONE)", "4 .. (NONE: no HOUR)" of a PAD without signs. */
    private static void judgedWithoutSigns() {
        judged("no signs, no HOURS", new NapVoyage(), 0, 0, 0, NONE, 0, 0, 1000000, NONE, 0, 0);
        judged("no signs, the most of all", of(leg(1, 24, 500, 1), leg(1, 24, 500, 1)), 1, 20, 24,
            NONE, 0, 20, 1000000, NONE, 0, 24);
    }

    /** Promise 11 on a WAY without LEGS: each THING is beyond its end. */
    private static void judgedOnNoHours() {
        for (String log : new String[] {"w", "1", "2", "3.", "l", "!1", "!2", "!3.", "!l", "wwww"}) {
            judged(log + " on no HOURS", with(log, leg(0, 3, 100, 0)), 1, 7, 3, 0, 0, 7, 1000000, NONE, 0, 3);
        }
    }

    /** Part 2: "JUDGED on a WAY from HOUR 0, an OWED and a BATTERY on". */
    private static void fromHour0On() {
        NapVoyage x = with("w", leg(0, 1, 100, 0), leg(0, 1, 200, 0), leg(1, 1, 300, 0));
        judged("HOUR 0 of WAY 0", x, 0, 0, 0, NONE, 1, 1, 998000, 0, 1, 0);
        judged("HOUR 0 of WAY 1", x, 1, 0, 0, NONE, 1, 1, 994000, 0, 1, 0);
        judged("once more from there on", x, 0, 20, 24, NONE, 1, 20, 988000, 0, 1, 24);
    }

    /** Part 2: "(LIES are not counted out)": more than the 4 of BEST can be. */
    private static void liesAreNotCounted() {
        NapVoyage x = with("lllll", leg(0, 1, 0, 0));
        judged("five LIES", x, 0, 20, 0, NONE, 5, 15, 1000000, 0, 0, 0);
        Checks.rewrite(x, "l".repeat(60));
        judged("sixty LIES", x, 0, 20, 0, NONE, 60, 0, 1000000, 0, 0, 0);
        Checks.rewrite(x, "!l".repeat(24));
        judged("24 LIES with the BELL", x, 0, 20, 24, NONE, 24, 0, 1000000, 0, 0, 0);
    }

    /** Part 2: "beyond the end of the WAY". */
    private static void beyondTheEnd() {
        for (String thing : new String[] {"w", "1", "2", "3.", "l", "!1", "!2", "!3.", "!l"}) {
            NapVoyage x = with("ww" + thing, leg(0, 2, 0, 0));
            judged(thing + " at the end", x, 0, 0, 24, 2, 2, 2, 1000000, 0, 2, 24);
            Checks.rewrite(x, "w" + thing);
            int due = thing.endsWith("3.") ? 1 : NONE;
            C.due("11: " + thing + " in the last HOUR", x.judge(0, 0, 24, FIRST_BAD), due);
        }
        judged("NAP 3 to the end", with("3.", leg(0, 2, 0, 0)), 0, 0, 0, NONE, 2, 0, 1000000, 0, 2, 0);
        judged("NAP 3 beyond it", with("3.", leg(0, 1, 0, 0)), 0, 5, 0, 0, 0, 5, 1000000, NONE, 0, 0);
        judged("one more than the WAY", with("www", leg(0, 2, 0, 0)), 0, 0, 0, 2, 2, 2, 1000000, 0, 2, 0);
    }

    /** "8 LEGS and 48 HOURS at most" and "up to 60 signs" together. */
    private static void theEndOf48Hours() {
        NapVoyage x = with("w".repeat(48), leg(0, 24, 0, 0), leg(0, 24, 0, 0));
        judged("48 WATCHES", x, 0, 0, 0, NONE, 48, 20, 1000000, 0, 48, 0);
        x.say('w');
        judged("49 WATCHES", x, 0, 0, 0, 48, 48, 20, 1000000, 0, 48, 0);
        Checks.rewrite(x, "3.".repeat(24));
        judged("24 NAPS 3", x, 0, 20, 0, NONE, 48, 0, 1000000, 0, 48, 0);
        Checks.write(x, "3.".repeat(6));
        judged("30 NAPS 3", x, 0, 20, 0, 24, 48, 0, 1000000, 0, 48, 0);
        Checks.rewrite(x, "l".repeat(12) + "w".repeat(48));
        judged("12 LIES and 48 WATCHES", x, 0, 0, 0, NONE, 60, 20, 1000000, 0, 48, 0);
        Checks.rewrite(x, "l".repeat(11) + "w".repeat(48) + "l");
        judged("a LIE behind the end", x, 0, 0, 0, 59, 59, 20, 1000000, 0, 48, 0);
        Checks.rewrite(x, "w" + "3.".repeat(23) + "1");
        judged("the last HOUR alone is left", x, 0, 0, 0, NONE, 48, 0, 1000000, 0, 48, 0);
        Checks.rewrite(x, "w" + "3.".repeat(24));
        judged("NAP 3 from HOUR 47 on", x, 0, 0, 0, 24, 47, 0, 1000000, 0, 47, 0);
    }

    /** Part 2: "not to be done in that HOUR". */
    private static void notInThatHour() {
        int[][] legs = {leg(0, 1, 0, 0), leg(0, 1, 0, 1), leg(0, 2, 0, 0)};
        for (String thing : new String[] {"1", "2", "3.", "l", "!1", "!2", "!3.", "!l"}) {
            judged(thing + " in a SQUALL", with("w" + thing + "w", legs), 0, 0, 24, 1, 1, 1, 1000000, 0, 1, 24);
            C.due("11: " + thing + " behind it", with("ww" + thing, legs).judge(0, 0, 24, FIRST_BAD), NONE);
        }
        judged("NAP 3 into a SQUALL", with("3.w", legs), 0, 9, 24, 0, 0, 9, 1000000, NONE, 0, 24);
        judged("WATCH in a SQUALL", with("www", legs), 0, 0, 0, NONE, 3, 4, 1000000, 0, 3, 0);
    }

    /** Part 2: "too little BATTERY"; part 1: "it takes 1 of the BATTERY". */
    private static void tooLittleBattery() {
        int[] legs = leg(0, 24, 0, 0);
        for (String thing : new String[] {"!1", "!2", "!l"}) {
            C.due("11: " + thing + ", BATTERY 0", with(thing, legs).judge(0, 0, 0, FIRST_BAD), 0);
            C.due("11: " + thing + ", BATTERY 1", with(thing, legs).judge(0, 0, 1, FIRST_BAD), NONE);
            C.due("11: " + thing + ", none is left", with(thing, legs).judge(0, 0, 1, LEFT), 0);
            C.due("11: " + thing + ", 23 are left", with(thing, legs).judge(0, 0, 24, LEFT), 23);
            NapVoyage x = with(thing.repeat(25), legs, legs);
            C.due("11: " + thing + " 25 times, BATTERY 24", x.judge(0, 0, 24, FIRST_BAD), 24);
            C.due("11: " + thing + " 24 times, none is left", x.judge(0, 0, 24, LEFT), 0);
            C.due("11: " + thing + " 25 times, BATTERY 23", x.judge(0, 0, 23, FIRST_BAD), 23);
        }
        judged("without the BELL none is taken", with("w123.l", legs), 0, 0, 0, NONE, 6, 0, 1000000, 0, 5, 0);
        judged("without the BELL all is left", with("w123.l", legs), 0, 0, 24, NONE, 6, 0, 1000000, 0, 5, 24);
    }

    /** Part 1: "it takes 1 of the BATTERY, of NAP 3 2". */
    private static void bellOfNap3TakesTwo() {
        int[] legs = leg(0, 24, 0, 0);
        judged("NAP 3, BATTERY 0", with("!3.", legs), 0, 9, 0, 0, 0, 9, 1000000, NONE, 0, 0);
        judged("NAP 3, BATTERY 1", with("!3.", legs), 0, 9, 1, 0, 0, 9, 1000000, NONE, 0, 1);
        judged("NAP 3, BATTERY 2", with("!3.", legs), 0, 9, 2, NONE, 2, 3, 1000000, 0, 2, 0);
        judged("NAP 3, BATTERY 3", with("!3.", legs), 0, 9, 3, NONE, 2, 3, 1000000, 0, 2, 1);
        judged("NAP 3 twice, BATTERY 3", with("!3.!3.", legs), 0, 9, 3, 1, 2, 3, 1000000, 0, 2, 1);
        judged("NAP 3 12 times, BATTERY 24", with("!3.".repeat(12), legs), 0, 9, 24, NONE, 24, 0, 1000000, 0, 24, 0);
        judged("NAP 3 12 times, BATTERY 23", with("!3.".repeat(12), legs), 0, 9, 23, 11, 22, 0, 1000000, 0, 22, 1);
        judged("NAP 3 13 times, BATTERY 24", with("!3.".repeat(13), legs, legs), 0, 9, 24, 12, 24, 0, 1000000, 0, 24, 0);
    }

    /** Part 2: "What comes of those ahead of it": what is behind it counts for nothing, though it could be. */
    private static void ofThoseAheadOfIt() {
        NapVoyage x = with("w!1wl3.", leg(0, 6, 100, 0));
        judged("stopped by BATTERY", x, 0, 5, 0, 1, 1, 6, 998000, 0, 1, 0);
        C.due("11: not stopped", x.judge(0, 5, 1, FIRST_BAD), NONE);
        judged("the first one of all", with("!3.wwww", leg(0, 6, 100, 0)), 0, 5, 1, 0, 0, 5, 1000000, NONE, 0, 1);
    }

    /** Part 2: "TIMES: how many HOURS passed (of LIE 1, of NAP 3 2)". */
    private static void timesOfLieAndNap3() {
        int[] legs = leg(0, 12, 0, 0);
        String[] logs = {"w", "1", "2", "3.", "l", "!1", "!2", "!3.", "!l", "l3.l", "3.3."};
        int[] times = {1, 1, 1, 2, 1, 1, 1, 2, 1, 4, 4};
        int[] next = {1, 1, 1, 2, 0, 1, 1, 2, 0, 2, 4};
        for (int i = 0; i < logs.length; i++) {
            C.due("11: TIMES of " + logs[i], with(logs[i], legs).judge(0, 9, 9, TIMES), times[i]);
            C.due("11: HOUR that is next behind " + logs[i], with(logs[i], legs).judge(0, 9, 9, NEXT), next[i]);
        }
    }

    /** Part 1: "20 at most", "0 at least", THING by THING. */
    private static void owedByALog() {
        int[] legs = leg(0, 24, 0, 0);
        String[] things = {"w", "1", "2", "3.", "l", "!1", "!2", "!3.", "!l"};
        int[] behind = {10, 8, 7, 3, 8, 8, 7, 3, 8};
        for (int i = 0; i < things.length; i++) {
            C.due("11: owing 9, behind " + things[i], with(things[i], legs).judge(0, 9, 2, OWED), behind[i]);
        }
        C.due("11: 20 at most, then 1 less", with("wwl", legs).judge(0, 19, 0, OWED), 19);
        C.due("11: 0 at least, then 1 more", with("3.w", legs).judge(0, 3, 0, OWED), 1);
        C.due("11: from 0 up to 20", with("w".repeat(21), legs).judge(0, 0, 0, OWED), 20);
        C.due("11: from 0 up to 19", with("w".repeat(19), legs).judge(0, 0, 0, OWED), 19);
        C.due("11: from 20 down to 0", with("l".repeat(20), legs).judge(0, 20, 0, OWED), 0);
        C.due("11: from 20 down to 1", with("l".repeat(19), legs).judge(0, 20, 0, OWED), 1);
        C.due("11: NIGHT begins with HOUR 12", with("w".repeat(11) + "11", legs).judge(0, 0, 0, OWED), 8);
    }

    /** Part 1: "1000000 at first; from the last one back: that times (1000000 less RISK) by 1000000", each cut. */
    private static void safeFromTheLastBack() {
        // 998020; 996023.96, cut; 994030.954, cut. From the first one on it would be 994031.
        C.due("11: RISKS of 2000, 2000, 1980", with("www", leg(0, 2, 100, 0), leg(0, 1, 99, 0)).judge(0, 0, 0, SAFE), 994030);
        C.due("11: RISKS of 1980, 2000, 2000", with("www", leg(0, 1, 99, 0), leg(0, 2, 100, 0)).judge(0, 0, 0, SAFE), 994031);
        // 999980; 999960.0004, cut; 999940.0008, cut.
        C.due("11: RISKS of 20", with("www", leg(0, 3, 1, 0)).judge(0, 0, 0, SAFE), 999940);
        C.due("11: no RISK", with("w3.l1", leg(0, 9, 0, 0)).judge(0, 20, 0, SAFE), 1000000);
        NapVoyage x = with("1", leg(0, 1, 1, 0));
        x.nap(1, 1, 1);
        C.due("11: the least RISK", x.judge(0, 0, 0, SAFE), 999999);
        // NAP 3 from HOUR 1 into HOUR 2: 960000 by 800 of 50, then 920000 by 800 of 100, then 998000.
        C.due("11: NAP 3 over two LEGS", with("w3.", leg(0, 2, 100, 0), leg(0, 1, 50, 0)).judge(0, 0, 0, SAFE),
            Checks.safe(2000, 80000, 40000));
    }

    /** Part 1: a RISK of 500000 halves SAFE, cut: 20 HOURS leave nothing of 1000000. */
    private static void safeDownToNought() {
        NapVoyage x = of(leg(0, 24, 500, 0), leg(0, 24, 500, 0));
        x.nap(1, 1, 1000);
        int[] due = {500000, 250000, 125000, 62500, 31250, 15625, 7812, 3906, 1953, 976, 488, 244, 122, 61, 30, 15, 7, 3, 1, 0, 0};
        for (int n = 1; n <= due.length; n++) {
            x.say('1');
            C.due("11: SAFE of " + n + " HOURS", x.judge(0, 20, 0, SAFE), due[n - 1]);
        }
        Checks.rewrite(x, "1".repeat(48));
        C.due("11: SAFE of 48 HOURS", x.judge(0, 20, 0, SAFE), 0);
    }

    /** Part 2: "the one with the most RISK, the first such (from 0 on)"; promise 11: "(NONE: no HOUR)". */
    private static void theMostRiskTheFirstSuch() {
        int[][] legs = {leg(0, 3, 100, 0), leg(0, 3, 101, 0)};
        C.due("11: no HOUR", with("", legs).judge(0, 0, 0, MOST_RISK), NONE);
        C.due("11: no HOUR that can be", with("!1", legs).judge(0, 0, 0, MOST_RISK), NONE);
        C.due("11: one HOUR", with("w", legs).judge(0, 0, 0, MOST_RISK), 0);
        C.due("11: all alike", with("www", legs).judge(0, 0, 0, MOST_RISK), 0);
        C.due("11: the last one by a little", with("wwww", legs).judge(0, 0, 0, MOST_RISK), 3);
        C.due("11: of two that are alike", with("wwwwww", legs).judge(0, 0, 0, MOST_RISK), 3);
        C.due("11: the first one by far", with("3.wwww", legs).judge(0, 0, 0, MOST_RISK), 0);
        C.due("11: all without RISK", with("www", leg(0, 3, 0, 0)).judge(0, 0, 0, MOST_RISK), 0);
        C.due("11: all but the last without RISK", with("wwww", leg(0, 3, 0, 0), leg(0, 1, 1, 0)).judge(0, 0, 0, MOST_RISK), 3);
        NapVoyage x = with("l".repeat(59) + "1", leg(0, 1, 500, 0));
        C.due("11: sixty HOURS, the first", x.judge(0, 0, 0, MOST_RISK), 0);
        x.nap(1, 1, 301);
        C.due("11: sixty HOURS, the last", x.judge(0, 0, 0, MOST_RISK), 59);
    }

    /** Part 2: "of these": of the HOURS that passed, so LIES and both HOURS of NAP 3 count. */
    private static void theMostRiskIsOfTheTimes() {
        int[][] legs = {leg(0, 2, 10, 0), leg(0, 2, 100, 0)};
        C.due("11: the second HOUR of NAP 3", with("w3.w", legs).judge(0, 0, 0, MOST_RISK), 2);
        C.due("11: behind two LIES", with("llw3.w", legs).judge(0, 0, 0, MOST_RISK), 4);
        C.due("11: behind NAP 3", with("3.1", legs).judge(0, 0, 0, MOST_RISK), 2);
    }

    /** Promise 11: "UNKNOWN; OUTSIDE: OWED, BATTERY 0 to 24, what". */
    private static void ranges() {
        NapVoyage x = with("w", leg(0, 1, 100, 0), leg(1, 1, 100, 0));
        for (int way : new int[] {-1, 2, LEAST, GREATEST}) {
            C.due("11: WAY " + way, x.judge(way, 0, 0, 0), UNKNOWN);
        }
        C.due("11: OWED 0", x.judge(0, 0, 0, OWED), 1);
        C.due("11: OWED 20", x.judge(1, 20, 0, OWED), 20);
        for (int beyond : new int[] {-1, 21, LEAST, GREATEST}) {
            C.due("11: OWED " + beyond, x.judge(0, beyond, 0, 0), OUTSIDE);
        }
        C.due("11: BATTERY 0", x.judge(0, 0, 0, LEFT), 0);
        C.due("11: BATTERY 24", x.judge(0, 0, 24, LEFT), 24);
        for (int beyond : new int[] {-1, 25, LEAST, GREATEST}) {
            C.due("11: BATTERY " + beyond, x.judge(0, 0, beyond, 0), OUTSIDE);
        }
        C.due("11: what 0", x.judge(0, 0, 3, 0), NONE);
        C.due("11: what 6", x.judge(0, 0, 3, 6), 3);
        for (int beyond : new int[] {-1, 7, LEAST, GREATEST}) {
            C.due("11: what " + beyond, x.judge(0, 0, 0, beyond), OUTSIDE);
        }
    }

    /** Promise 11: "NO: there is a FAULT", of every kind, though all THINGS ahead of it could be. */
    private static void aFaultIsRefused() {
        for (String log : new String[] {"3", "!", "!3", ".", "?", "w3", "w!", "wW", "!w", "!!", "w1.", "w".repeat(59) + "!"}) {
            NapVoyage x = with(log, leg(0, 24, 100, 0), leg(0, 24, 100, 0));
            for (int what = 0; what <= 6; what++) {
                C.due("11: " + log + ", what " + what, x.judge(0, 0, 24, what), NO);
            }
            C.due("11: " + log + " on a WAY without LEGS", x.judge(1, 0, 24, 0), NO);
            C.due("11: " + log + " stands", x.told(0), log.length());
        }
        C.due("11: what can not be is no FAULT", with("w", leg(1, 1, 1, 0)).judge(0, 0, 0, 0), 0);
    }
}
