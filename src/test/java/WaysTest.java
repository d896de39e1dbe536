/** Promises 1 to 7: a new object, leg, cut, about, nap, owed, risk. */
public final class WaysTest {
    private static final int UNKNOWN = -1, OUTSIDE = -2, STATE = -3, FULL = -4, NO = -5, NONE = -6;
    private static final Checks C = new Checks();

    public static void main(String[] args) {
        aNewObject();
        leg();
        legIsFull();
        cut();
        about();
        nap();
        owed();
        owedWhatCanBe();
        risk();
        riskRefused();
        C.end("WaysTest");
    }

    private static void aNewObject() {
        NapVoyage x = new NapVoyage();
        int[] due = {0, 0, 0, 0, 0, 1, 2, 6, 200, 500, 800};
        for (int what = 0; what < due.length; what++) {
            C.due("1: told(" + what + ")", x.told(what), due[what]);
        }
        C.due("1: fault()", x.fault(), NONE);
        C.due("1: wipe()", x.wipe(), 0);
        C.due("1: cut(0)", x.cut(0), NO);
        C.due("1: cut(1)", x.cut(1), NO);
        C.due("1: restore(0)", x.restore(0), STATE);
        C.due("1: restore(1)", x.restore(1), STATE);
        C.due("1: UNKNOWN", NapVoyage.UNKNOWN, UNKNOWN);
        C.due("1: OUTSIDE", NapVoyage.OUTSIDE, OUTSIDE);
        C.due("1: STATE", NapVoyage.STATE, STATE);
        C.due("1: FULL", NapVoyage.FULL, FULL);
        C.due("1: NO", NapVoyage.NO, NO);
        C.due("1: NONE", NapVoyage.NONE, NONE);
        NapVoyage y = new NapVoyage();
        x.leg(0, 3, 3, 0);
        x.nap(1, 0, 9);
        x.say('w');
        C.due("1: objects share no LEGS", y.told(1), 0);
        C.due("1: objects share no NAPS", y.told(5), 1);
        C.due("1: objects share no PAD", y.told(0), 0);
    }

    private static void leg() {
        NapVoyage x = new NapVoyage();
        C.due("2: leg, least of all", x.leg(0, 1, 0, 0), 1);
        C.due("2: leg, most of all", x.leg(0, 24, 500, 1), 25);
        C.due("2: leg of the other way", x.leg(1, 7, 10, 0), 7);
        C.due("2: no way 2", x.leg(2, 1, 1, 1), UNKNOWN);
        C.due("2: no way -1", x.leg(-1, 1, 1, 1), UNKNOWN);
        C.due("2: unknown is ahead of outside", x.leg(2, 0, 501, 2), UNKNOWN);
        C.due("2: 0 hours", x.leg(0, 0, 1, 0), OUTSIDE);
        C.due("2: 25 hours", x.leg(0, 25, 1, 0), OUTSIDE);
        C.due("2: ships -1", x.leg(0, 1, -1, 0), OUTSIDE);
        C.due("2: ships 501", x.leg(0, 1, 501, 0), OUTSIDE);
        C.due("2: squall -1", x.leg(0, 1, 1, -1), OUTSIDE);
        C.due("2: squall 2", x.leg(0, 1, 1, 2), OUTSIDE);
        C.due("2: what was refused changed nothing", x.told(1), 2);
        C.due("2: what was refused changed no hours", x.told(3), 25);
        for (int far : Checks.extremes()) {
            C.due("2: way " + far, x.leg(far, 1, 1, 1), UNKNOWN);
            C.due("2: hours " + far, x.leg(0, far, 1, 1), OUTSIDE);
            C.due("2: ships " + far, x.leg(0, 1, far, 1), OUTSIDE);
            C.due("2: squall " + far, x.leg(0, 1, 1, far), OUTSIDE);
        }
    }

    private static void legIsFull() {
        NapVoyage x = new NapVoyage();
        for (int i = 1; i <= 8; i++) {
            C.due("2: leg " + i, x.leg(1, 6, i, 0), 6 * i);
        }
        C.due("2: a ninth leg", x.leg(1, 1, 1, 0), FULL);
        C.due("2: outside is ahead of full", x.leg(1, 25, 1, 0), OUTSIDE);
        C.due("2: the other way has room", x.leg(0, 24, 1, 0), 24);
        C.due("2: 23 more", x.leg(0, 23, 1, 0), 47);
        C.due("2: 49 hours", x.leg(0, 2, 1, 0), FULL);
        C.due("2: 48 hours", x.leg(0, 1, 1, 0), 48);
        C.due("2: 49 hours again", x.leg(0, 1, 1, 0), FULL);
        C.due("2: full changed no legs", x.told(1), 3);
        C.due("2: full changed no hours", x.told(3), 48);
        NapVoyage y = new NapVoyage();
        for (int i = 0; i < 8; i++) {
            y.leg(0, 1, 1, 0);
        }
        C.due("2: a ninth leg of few hours", y.leg(0, 1, 1, 0), FULL);
    }

    private static void cut() {
        NapVoyage x = new NapVoyage();
        x.leg(0, 5, 100, 0);
        x.leg(0, 3, 20, 1);
        x.leg(1, 2, 20, 1);
        C.due("3: cut(0)", x.cut(0), 1);
        C.due("3: its hours went", x.told(3), 5);
        C.due("3: the other way stands", x.told(4), 2);
        C.due("3: its first leg stands", x.about(0, 0, 1), 100);
        C.due("3: its second leg is gone", x.about(0, 1, 1), UNKNOWN);
        C.due("3: the hours of it are gone", x.owed(0, 5, 1, 0), OUTSIDE);
        C.due("3: a leg in its stead", x.leg(0, 4, 7, 0), 9);
        C.due("3: with its own ships", x.risk(0, 5, 0, 0, 0), 140);
        C.due("3: and no squall", x.owed(0, 5, 1, 0), 2);
        C.due("3: cut(0)", x.cut(0), 1);
        C.due("3: cut(0) to none", x.cut(0), 0);
        C.due("3: cut(0) of none", x.cut(0), NO);
        C.due("3: cut(2)", x.cut(2), UNKNOWN);
        C.due("3: cut(-1)", x.cut(-1), UNKNOWN);
        for (int far : Checks.extremes()) {
            C.due("3: cut(" + far + ")", x.cut(far), UNKNOWN);
        }
    }

    private static void about() {
        NapVoyage x = new NapVoyage();
        x.leg(0, 5, 100, 0);
        x.leg(0, 3, 20, 1);
        x.leg(0, 9, 0, 0);
        int[][] due = {{5, 100, 0, 0}, {3, 20, 1, 5}, {9, 0, 0, 8}};
        for (int leg = 0; leg < 3; leg++) {
            for (int what = 0; what < 4; what++) {
                C.due("4: about(0, " + leg + ", " + what + ")", x.about(0, leg, what), due[leg][what]);
            }
        }
        C.due("4: no such leg", x.about(0, 3, 0), UNKNOWN);
        C.due("4: no leg -1", x.about(0, -1, 0), UNKNOWN);
        C.due("4: no leg of the other way", x.about(1, 0, 0), UNKNOWN);
        C.due("4: no such way", x.about(2, 0, 0), UNKNOWN);
        C.due("4: no way -1", x.about(-1, 0, 0), UNKNOWN);
        C.due("4: what 4", x.about(0, 0, 4), OUTSIDE);
        C.due("4: what -1", x.about(0, 0, -1), OUTSIDE);
        C.due("4: unknown leg is ahead of outside", x.about(0, 3, 4), UNKNOWN);
        C.due("4: unknown way is ahead of outside", x.about(2, 0, 4), UNKNOWN);
        for (int far : Checks.extremes()) {
            C.due("4: way " + far, x.about(far, 0, 0), UNKNOWN);
            C.due("4: leg " + far, x.about(0, far, 0), UNKNOWN);
            C.due("4: what " + far, x.about(0, 0, far), OUTSIDE);
        }
    }

    private static void nap() {
        NapVoyage x = new NapVoyage();
        int[] give = {0, 1, 2, 6};
        int[] deep = {0, 200, 500, 800};
        for (int nap = 1; nap <= 3; nap++) {
            C.due("5: GIVE was", x.nap(nap, 0, 9), give[nap]);
            C.due("5: GIVE is 9 now", x.nap(nap, 0, 0), 9);
            C.due("5: GIVE is 0 now", x.told(4 + nap), 0);
            C.due("5: DEEP was", x.nap(nap, 1, 1000), deep[nap]);
            C.due("5: DEEP is 1000 now", x.nap(nap, 1, 0), 1000);
            C.due("5: DEEP is 0 now", x.told(7 + nap), 0);
            C.due("5: GIVE 10", x.nap(nap, 0, 10), OUTSIDE);
            C.due("5: GIVE -1", x.nap(nap, 0, -1), OUTSIDE);
            C.due("5: DEEP 1001", x.nap(nap, 1, 1001), OUTSIDE);
            C.due("5: DEEP -1", x.nap(nap, 1, -1), OUTSIDE);
            C.due("5: refused, GIVE stands", x.told(4 + nap), 0);
            C.due("5: refused, DEEP stands", x.told(7 + nap), 0);
        }
        C.due("5: nap 0", x.nap(0, 0, 1), OUTSIDE);
        C.due("5: nap 4", x.nap(4, 0, 1), OUTSIDE);
        C.due("5: what 2", x.nap(1, 2, 1), OUTSIDE);
        C.due("5: what -1", x.nap(1, -1, 1), OUTSIDE);
        for (int far : Checks.extremes()) {
            C.due("5: nap " + far, x.nap(far, 0, 1), OUTSIDE);
            C.due("5: what " + far, x.nap(1, far, 1), OUTSIDE);
            C.due("5: v " + far, x.nap(1, 1, far), OUTSIDE);
        }
    }

    private static void owed() {
        NapVoyage x = new NapVoyage();
        x.leg(0, 24, 100, 0);
        x.leg(0, 2, 100, 1);
        x.leg(0, 22, 100, 0);
        C.due("6: WATCH", x.owed(0, 0, 0, 0), 1);
        C.due("6: WATCH, 19", x.owed(0, 0, 19, 0), 20);
        C.due("6: WATCH, 20 at most", x.owed(0, 0, 20, 0), 20);
        C.due("6: WATCH in a squall", x.owed(0, 24, 3, 0), 5);
        C.due("6: WATCH in a squall, 18", x.owed(0, 25, 18, 0), 20);
        C.due("6: WATCH in a squall, 19", x.owed(0, 25, 19, 0), 20);
        C.due("6: NAP 1", x.owed(0, 0, 9, 1), 8);
        C.due("6: NAP 2", x.owed(0, 0, 9, 2), 7);
        C.due("6: NAP 3", x.owed(0, 0, 9, 3), 3);
        C.due("6: NAP 3, 0 at least", x.owed(0, 0, 5, 3), 0);
        C.due("6: the last hour of day", x.owed(0, 11, 9, 2), 7);
        C.due("6: the first hour of night", x.owed(0, 12, 9, 2), 6);
        C.due("6: NAP 3 is of the day of its first hour", x.owed(0, 11, 9, 3), 3);
        C.due("6: the last hour of night", x.owed(0, 23, 9, 1), 7);
        C.due("6: NAP by the second day", x.owed(0, 35, 9, 1), 8);
        C.due("6: NAP by the second night", x.owed(0, 36, 9, 1), 7);
        C.due("6: NAP by the last hour", x.owed(0, 47, 9, 1), 7);
        C.due("6: NAP by night, 0 at least", x.owed(0, 13, 1, 1), 0);
        C.due("6: LIE", x.owed(0, 0, 9, 4), 8);
        C.due("6: LIE by night gives no more", x.owed(0, 12, 9, 4), 8);
        C.due("6: LIE, 0 at least", x.owed(0, 0, 0, 4), 0);
        x.nap(2, 0, 0);
        C.due("6: GIVE 0 by day", x.owed(0, 0, 9, 2), 9);
        C.due("6: GIVE 0 by night", x.owed(0, 12, 9, 2), 8);
    }

    private static void owedWhatCanBe() {
        NapVoyage x = new NapVoyage();
        x.leg(0, 3, 100, 0);
        x.leg(0, 2, 100, 1);
        x.leg(0, 2, 100, 0);
        for (int thing = 1; thing <= 4; thing++) {
            C.due("6: in a squall not " + thing, x.owed(0, 3, 9, thing), NO);
            C.due("6: in its last hour not " + thing, x.owed(0, 4, 9, thing), NO);
        }
        C.due("6: NAP 3 into a squall", x.owed(0, 2, 9, 3), NO);
        C.due("6: NAP 2 ahead of a squall", x.owed(0, 2, 9, 2), 7);
        C.due("6: LIE ahead of a squall", x.owed(0, 2, 9, 4), 8);
        C.due("6: NAP 3 just ahead of that", x.owed(0, 1, 9, 3), 3);
        C.due("6: NAP 3 in the last two hours", x.owed(0, 5, 9, 3), 3);
        C.due("6: NAP 3 beyond the end", x.owed(0, 6, 9, 3), NO);
        NapVoyage y = new NapVoyage();
        y.leg(1, 1, 100, 1);
        y.leg(1, 2, 100, 0);
        C.due("6: a SQUALL in the first HOUR, WATCH", y.owed(1, 0, 9, 0), 11);
        C.due("6: a SQUALL in the first HOUR, NAP 1", y.owed(1, 0, 9, 1), NO);
        C.due("6: behind it", y.owed(1, 1, 9, 3), 3);
        C.due("6: way 2", x.owed(2, 0, 9, 0), UNKNOWN);
        C.due("6: unknown is ahead of outside", x.owed(-1, 9, 21, 5), UNKNOWN);
        C.due("6: the end is no hour", x.owed(0, 7, 9, 0), OUTSIDE);
        C.due("6: hour -1", x.owed(0, -1, 9, 0), OUTSIDE);
        C.due("6: no hours", x.owed(1, 0, 9, 0), OUTSIDE);
        C.due("6: owed 21", x.owed(0, 0, 21, 0), OUTSIDE);
        C.due("6: owed -1", x.owed(0, 0, -1, 0), OUTSIDE);
        C.due("6: thing 5", x.owed(0, 0, 9, 5), OUTSIDE);
        C.due("6: thing -1", x.owed(0, 0, 9, -1), OUTSIDE);
        C.due("6: outside is ahead of no", x.owed(0, 3, 21, 1), OUTSIDE);
        for (int far : Checks.extremes()) {
            C.due("6: way " + far, x.owed(far, 0, 0, 0), UNKNOWN);
            C.due("6: hour " + far, x.owed(0, far, 0, 0), OUTSIDE);
            C.due("6: owed " + far, x.owed(0, 0, far, 0), OUTSIDE);
            C.due("6: thing " + far, x.owed(0, 0, 0, far), OUTSIDE);
        }
    }

    private static void risk() {
        NapVoyage x = new NapVoyage();
        x.leg(0, 4, 100, 0);
        x.leg(0, 2, 300, 0);
        x.leg(0, 2, 7, 1);
        C.due("7: WATCH, owed 10", x.risk(0, 0, 10, 0, 0), 2000);
        C.due("7: WATCH, owed 11", x.risk(0, 0, 11, 0, 0), 3000);
        C.due("7: WATCH, owed 20", x.risk(0, 0, 20, 0, 0), 12000);
        C.due("7: WATCH in a squall", x.risk(0, 6, 12, 0, 0), 280);
        C.due("7: NAP 1", x.risk(0, 0, 10, 1, 0), 20000);
        C.due("7: NAP 1, owed 11", x.risk(0, 0, 11, 1, 0), 22000);
        C.due("7: NAP 2", x.risk(0, 0, 0, 2, 0), 50000);
        C.due("7: NAP 3", x.risk(0, 0, 0, 3, 0), 80000);
        C.due("7: NAP 3, owed 19", x.risk(0, 0, 19, 3, 0), 98000);
        C.due("7: NAP 3 is of the ships of its first hour", x.risk(0, 3, 0, 3, 0), 80000);
        C.due("7: of other ships", x.risk(0, 4, 0, 3, 0), 240000);
        C.due("7: LIE", x.risk(0, 0, 20, 4, 0), 30000);
        C.due("7: LIE, BELL", x.risk(0, 0, 0, 4, 1), 12000);
        C.due("7: NAP 2, BELL, owed 0", x.risk(0, 0, 0, 2, 1), 20000);
        C.due("7: NAP 2, BELL, owed 14", x.risk(0, 0, 14, 2, 1), 55600);
        C.due("7: NAP 2, BELL not heard", x.risk(0, 0, 15, 2, 1), 60000);
        C.due("7: NAP 2, BELL not heard, owed 20", x.risk(0, 0, 20, 2, 1), 70000);
        x.nap(3, 1, 999);
        C.due("7: 1000 at most", x.risk(0, 0, 11, 3, 0), 100000);
        C.due("7: 1000 at most ahead of the BELL", x.risk(0, 0, 11, 3, 1), 84000);
        x.nap(1, 1, 333);
        C.due("7: BLIND is cut", x.risk(0, 0, 1, 1, 1), 14600);
        x.nap(1, 1, 0);
        C.due("7: DEEP 0", x.risk(0, 0, 10, 1, 0), 0);
    }

    private static void riskRefused() {
        NapVoyage x = new NapVoyage();
        x.leg(1, 3, 100, 0);
        x.leg(1, 1, 100, 1);
        C.due("7: WATCH with the BELL", x.risk(1, 0, 0, 0, 1), NO);
        C.due("7: NAP 3 into a squall", x.risk(1, 2, 0, 3, 0), NO);
        C.due("7: NAP 1 in a squall", x.risk(1, 3, 0, 1, 0), NO);
        C.due("7: LIE in a squall", x.risk(1, 3, 0, 4, 1), NO);
        C.due("7: WATCH in a squall with the BELL", x.risk(1, 3, 0, 0, 1), NO);
        C.due("7: way 2", x.risk(2, 0, 0, 0, 0), UNKNOWN);
        C.due("7: unknown is ahead of outside", x.risk(2, -1, 21, 5, 2), UNKNOWN);
        C.due("7: the end", x.risk(1, 4, 0, 0, 0), OUTSIDE);
        C.due("7: owed 21", x.risk(1, 0, 21, 0, 0), OUTSIDE);
        C.due("7: thing 5", x.risk(1, 0, 0, 5, 0), OUTSIDE);
        C.due("7: bell 2", x.risk(1, 0, 0, 1, 2), OUTSIDE);
        C.due("7: bell -1", x.risk(1, 0, 0, 1, -1), OUTSIDE);
        C.due("7: outside is ahead of no", x.risk(1, 3, 21, 0, 1), OUTSIDE);
        for (int far : Checks.extremes()) {
            C.due("7: way " + far, x.risk(far, 0, 0, 0, 0), UNKNOWN);
            C.due("7: hour " + far, x.risk(1, far, 0, 0, 0), OUTSIDE);
            C.due("7: owed " + far, x.risk(1, 0, far, 0, 0), OUTSIDE);
            C.due("7: thing " + far, x.risk(1, 0, 0, far, 0), OUTSIDE);
            C.due("7: bell " + far, x.risk(1, 0, 0, 1, far), OUTSIDE);
        }
    }
}
