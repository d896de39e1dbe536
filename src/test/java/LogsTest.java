/** Promises 8 to 11: say, wipe, fault, judge. */
public final class LogsTest {
    private static final int UNKNOWN = -1, OUTSIDE = -2, FULL = -4, NO = -5, NONE = -6;
    private static final Checks C = new Checks();

    public static void main(String[] args) {
        say();
        wipe();
        fault();
        faultOfEverySign();
        judge();
        judgeOfNothing();
        judgeWhatCanNotBe();
        judgeBattery();
        judgeTheMostRisk();
        judgeRefused();
        C.end("LogsTest");
    }

    private static void say() {
        NapVoyage x = new NapVoyage();
        C.due("8: sign 33", x.say(33), 1);
        C.due("8: sign 126", x.say(126), 2);
        C.due("8: sign 32", x.say(32), OUTSIDE);
        C.due("8: sign 127", x.say(127), OUTSIDE);
        C.due("8: sign 0", x.say(0), OUTSIDE);
        C.due("8: a sign that would be w if it were cut", x.say(65536 + 'w'), OUTSIDE);
        C.due("8: refused, nothing changed", x.told(0), 2);
        for (int far : Checks.extremes()) {
            C.due("8: say(" + far + ")", x.say(far), OUTSIDE);
        }
        for (int n = 3; n <= 60; n++) {
            C.due("8: sign " + n, x.say('w'), n);
        }
        C.due("8: sign 61", x.say('w'), FULL);
        C.due("8: outside is ahead of full", x.say(127), OUTSIDE);
        C.due("8: full changed nothing", x.told(0), 60);
    }

    private static void wipe() {
        NapVoyage x = new NapVoyage();
        C.due("9: wipe of nothing", x.wipe(), 0);
        Checks.write(x, "w3.");
        C.due("9: wipe of three", x.wipe(), 3);
        C.due("9: told", x.told(0), 0);
        C.due("9: fault", x.fault(), NONE);
        C.due("9: again", x.wipe(), 0);
        C.due("9: the first sign anew", x.say('z'), 1);
        C.due("9: no sign of before is left", x.fault(), 0);
    }

    private static void fault() {
        String[] whole = {"", "w", "1", "2", "3.", "l", "!1", "!2", "!3.", "!l", "ww11223.3.ll", "w!3.1lw2",
            "!1!1!1", "3.!3.3.", "l!l"};
        for (String log : whole) {
            faultOf(log, NONE);
        }
        faultOf("3", 1);
        faultOf("!", 1);
        faultOf("!3", 2);
        faultOf("ww!", 3);
        faultOf("33", 1);
        faultOf("3w", 1);
        faultOf("3!", 1);
        faultOf("3..", 2);
        faultOf("!3!.", 2);
        faultOf(".", 0);
        faultOf("1.", 1);
        faultOf("w.", 1);
        faultOf("l.", 1);
        faultOf("!w", 1);
        faultOf("!!", 1);
        faultOf("!.", 1);
        faultOf("!2.", 2);
        faultOf("W", 0);
        faultOf("L", 0);
        faultOf("4", 0);
        faultOf("0", 0);
        faultOf("ww?ww?", 2);
        faultOf("w".repeat(60), NONE);
        faultOf("w".repeat(59) + "!", 60);
        faultOf("w".repeat(59) + "3", 60);
        faultOf("w".repeat(59) + ".", 59);
        faultOf("w".repeat(58) + "3.", NONE);
    }

    private static void faultOf(String log, int due) {
        NapVoyage x = new NapVoyage();
        Checks.write(x, log);
        C.due("10: fault of " + log, x.fault(), due);
    }

    private static void faultOfEverySign() {
        for (int sign = 33; sign <= 126; sign++) {
            boolean alone = "w12l".indexOf(sign) >= 0;
            boolean more = "3!".indexOf(sign) >= 0;
            faultOf(String.valueOf((char) sign), alone ? NONE : more ? 1 : 0);
            boolean belled = "12l".indexOf(sign) >= 0;
            faultOf("!" + (char) sign, belled ? NONE : sign == '3' ? 2 : 1);
            faultOf("3" + (char) sign, sign == '.' ? NONE : 1);
        }
    }

    private static void judged(NapVoyage x, int way, int owed, int battery, int... due) {
        for (int what = 0; what < due.length; what++) {
            C.due("11: judge(" + way + ", " + owed + ", " + battery + ", " + what + ")",
                x.judge(way, owed, battery, what), due[what]);
        }
    }

    private static void judge() {
        NapVoyage x = new NapVoyage();
        x.leg(0, 3, 100, 0);
        x.leg(0, 2, 50, 1);
        x.leg(0, 3, 10, 0);
        // w: 100 * 20; 3.: 100 * 800 twice; w, w in the squall; l: 10 * 300; 1: 10 * 200; !2: 10 * 500 * 400 by 1000
        Checks.write(x, "w3.wwl1!2");
        // owed 5: 6, 0, 2, 4, 3, 2, 0; heard behind 2: 520
        long safe = 1000000;
        int[] risks = {2000, 80000, 80000, 1000, 1000, 3000, 2000, 2400};
        for (int i = risks.length - 1; i >= 0; i--) {
            safe = safe * (1000000 - risks[i]) / 1000000;
        }
        judged(x, 0, 5, 1, NONE, 8, 0, (int) safe, 1, 7, 0);
        judged(x, 0, 5, 24, NONE, 8, 0, (int) safe, 1, 7, 23);
        C.due("11: the LOG stands", x.told(0), 9);
    }

    private static void judgeOfNothing() {
        NapVoyage x = new NapVoyage();
        judged(x, 0, 7, 3, NONE, 0, 7, 1000000, NONE, 0, 3);
        judged(x, 1, 20, 24, NONE, 0, 20, 1000000, NONE, 0, 24);
        x.leg(1, 4, 100, 0);
        judged(x, 1, 0, 0, NONE, 0, 0, 1000000, NONE, 0, 0);
        x.say('w');
        judged(x, 0, 7, 3, 0, 0, 7, 1000000, NONE, 0, 3);
    }

    private static void judgeWhatCanNotBe() {
        NapVoyage x = new NapVoyage();
        x.leg(0, 2, 0, 0);
        x.leg(0, 1, 0, 1);
        x.leg(0, 2, 0, 0);
        Checks.rewrite(x, "wwwwwl");
        judged(x, 0, 0, 0, 5, 5, 6, 1000000, 0, 5, 0);
        Checks.rewrite(x, "wwwwww");
        judged(x, 0, 0, 0, 5, 5, 6, 1000000, 0, 5, 0);
        Checks.rewrite(x, "www3.");
        judged(x, 0, 0, 0, NONE, 5, 0, 1000000, 0, 5, 0);
        Checks.rewrite(x, "wwww3.");
        judged(x, 0, 0, 0, 4, 4, 5, 1000000, 0, 4, 0);
        Checks.rewrite(x, "w3.w");
        judged(x, 0, 0, 0, 1, 1, 1, 1000000, 0, 1, 0);
        for (String thing : new String[] {"1", "2", "3.", "l", "!1", "!2", "!3.", "!l"}) {
            Checks.rewrite(x, "ll1w" + thing + "ww");
            judged(x, 0, 3, 24, 4, 4, 1, 1000000, 0, 2, 24);
        }
        Checks.rewrite(x, "ll1w" + "w" + "ww");
        judged(x, 0, 3, 24, NONE, 7, 5, 1000000, 0, 5, 24);
        Checks.rewrite(x, "l".repeat(60));
        judged(x, 0, 20, 0, NONE, 60, 0, 1000000, 0, 0, 0);
    }

    private static void judgeBattery() {
        NapVoyage x = new NapVoyage();
        x.leg(0, 10, 0, 0);
        Checks.write(x, "!1!3.!l");
        judged(x, 0, 20, 4, NONE, 4, 12, 1000000, 0, 3, 0);
        judged(x, 0, 20, 3, 2, 3, 13, 1000000, 0, 3, 0);
        judged(x, 0, 20, 2, 1, 1, 19, 1000000, 0, 1, 1);
        judged(x, 0, 20, 1, 1, 1, 19, 1000000, 0, 1, 0);
        judged(x, 0, 20, 0, 0, 0, 20, 1000000, NONE, 0, 0);
        Checks.rewrite(x, "1!1");
        judged(x, 0, 20, 0, 1, 1, 19, 1000000, 0, 1, 0);
    }

    private static void judgeTheMostRisk() {
        NapVoyage x = new NapVoyage();
        x.leg(0, 3, 100, 0);
        x.leg(0, 3, 200, 0);
        Checks.write(x, "ll1w3.w");
        // TIMES: 0, 1 l; 2 1; 3 w; 4, 5 3. with the ships of HOURS 2 and 3; 6 w
        judged(x, 0, 0, 0, NONE, 7, 1, 708312, 5, 5, 0);
        Checks.rewrite(x, "wll");
        C.due("11: of the same RISK the first", x.judge(0, 0, 0, 4), 1);
        Checks.rewrite(x, "www");
        C.due("11: all of the same RISK", x.judge(0, 0, 0, 4), 0);
        C.due("11: more OWED, more RISK", x.judge(0, 9, 0, 4), 2);
        Checks.rewrite(x, "3.");
        C.due("11: of a NAP 3 the first", x.judge(0, 0, 0, 4), 0);
    }

    private static void judgeRefused() {
        NapVoyage x = new NapVoyage();
        x.leg(0, 3, 100, 0);
        Checks.write(x, "w!");
        for (int what = 0; what <= 6; what++) {
            C.due("11: there is a FAULT", x.judge(0, 0, 0, what), NO);
        }
        C.due("11: unknown is ahead of outside and no", x.judge(2, 21, 25, 7), UNKNOWN);
        C.due("11: way -1", x.judge(-1, 0, 0, 0), UNKNOWN);
        C.due("11: outside is ahead of no, owed", x.judge(0, 21, 0, 0), OUTSIDE);
        C.due("11: outside is ahead of no, owed -1", x.judge(0, -1, 0, 0), OUTSIDE);
        C.due("11: outside is ahead of no, battery", x.judge(0, 0, 25, 0), OUTSIDE);
        C.due("11: outside is ahead of no, battery -1", x.judge(0, 0, -1, 0), OUTSIDE);
        C.due("11: outside is ahead of no, what", x.judge(0, 0, 0, 7), OUTSIDE);
        C.due("11: outside is ahead of no, what -1", x.judge(0, 0, 0, -1), OUTSIDE);
        x.say('1');
        C.due("11: the FAULT is mended", x.judge(0, 0, 1, 0), NONE);
        C.due("11: owed 21", x.judge(0, 21, 0, 0), OUTSIDE);
        for (int far : Checks.extremes()) {
            C.due("11: way " + far, x.judge(far, 0, 0, 0), UNKNOWN);
            C.due("11: owed " + far, x.judge(0, far, 0, 0), OUTSIDE);
            C.due("11: battery " + far, x.judge(0, 0, far, 0), OUTSIDE);
            C.due("11: what " + far, x.judge(0, 0, 0, far), OUTSIDE);
        }
    }
}
