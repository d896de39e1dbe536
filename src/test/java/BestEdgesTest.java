import java.util.Arrays;

/**
 * Promises 12 to 18 and part 3 of the Terms at their edges: a method for each sentence that names one,
 * with the sentence above it.
 */
public final class BestEdgesTest {
    private static final int UNKNOWN = -1, OUTSIDE = -2, NONE = -6;
    private static final int LEAST = Integer.MIN_VALUE, GREATEST = Integer.MAX_VALUE;
    private static final int[] BEYOND_WAYS = {-1, 2, LEAST, GREATEST};
    private static final int[] BEYOND_OWED = {-1, 21, LEAST, GREATEST};
    private static final int[] BEYOND_BATTERY = {-1, 25, LEAST, GREATEST};
    private static final Checks C = new Checks();

    public static void main(String[] args) {
        fromAnHourToTheEnd();
        bestOfAWayThatChanged();
        aWayWithoutLegs();
        liesThatAreAllowed();
        batteryAllOfIt();
        bellOfNap3TakesTwo();
        nap3NotBeyondTheEnd();
        owedTwentyAtMost();
        bestOf48Hours();
        bestRanges();
        doesNoneAtTheEnd();
        doesTheFirst();
        doesWithoutTheBellFirst();
        doesRanges();
        loggedHowMany();
        loggedFourLies();
        loggedTheLongest();
        loggedRanges();
        clockInOddHours();
        owesEightOrMore();
        lanesFourOrMore();
        lanesShipsLessThan50();
        nightsOneOrMore();
        nightsByNight();
        thumbNap3ElseNap2();
        thumbWatchWhereNoneCanBe();
        thumbLoses();
        thumbRanges();
        worthTogether24();
        worthRanges();
        round0IfAlike();
        roundRanges();
        soonestNoLessThanTold();
        soonestNone();
        soonestRanges();
        C.end("BestEdgesTest");
    }

    private static NapVoyage of(int[]... legs) {
        return Checks.of(legs);
    }

    private static int[] leg(int way, int hours, int ships, int squall) {
        return Checks.leg(way, hours, ships, squall);
    }

    /**
     * An HOUR without SHIPS ahead of one of SQUALL with the most; NAPS give nothing. Owing 20 - n behind
     * n LIES, the SQUALL has a RISK of 500 times 120 less 10 n.
     */
    private static NapVoyage liesAlone() {
        NapVoyage x = of(leg(0, 1, 0, 0), leg(0, 1, 500, 1));
        for (int nap = 1; nap <= 3; nap++) {
            x.nap(nap, 0, 0);
        }
        return x;
    }

    /** NAP 1 leaves nothing OWED and is DEEP by 10, with the BELL by 4; NAPS 2 and 3 are of no use. */
    private static NapVoyage bellsAlone(int hours) {
        NapVoyage x = of(leg(0, Math.min(24, hours), 500, 0));
        if (hours > 24) {
            x.leg(0, hours - 24, 500, 0);
        }
        x.nap(1, 0, 9);
        x.nap(1, 1, 10);
        x.nap(2, 1, 1000);
        x.nap(3, 1, 1000);
        return x;
    }

    /** The most of 5000 or 2000 lost by HOUR, 2000 for so many of them: from the end back, each cut. */
    private static int bestOfBells(int hours, int battery) {
        long[] safe = new long[battery + 1];
        Arrays.fill(safe, 1000000);
        for (int hour = 0; hour < hours; hour++) {
            for (int b = battery; b >= 0; b--) {
                long without = safe[b] * 995000 / 1000000;
                safe[b] = b > 0 ? Math.max(without, safe[b - 1] * 998000 / 1000000) : without;
            }
        }
        return (int) safe[battery];
    }

    /** Promise 12: "SAFE from an HOUR (0 to HOURS of the WAY: its end) on". */
    private static void fromAnHourToTheEnd() {
        NapVoyage x = of(leg(0, 1, 100, 1), leg(0, 1, 200, 1), leg(0, 1, 300, 1));
        C.due("12: from HOUR 0 on", x.best(0, 0, 0, 0, 0), Checks.safe(2000, 4000, 6000));
        C.due("12: from HOUR 1 on", x.best(0, 1, 0, 0, 0), Checks.safe(4000, 6000));
        C.due("12: from the last HOUR on", x.best(0, 2, 0, 0, 0), 994000);
        C.due("12: from the end on", x.best(0, 3, 0, 0, 0), 1000000);
        C.due("12: from the end on, the most of all", x.best(0, 3, 20, 24, 4), 1000000);
        for (int beyond : new int[] {-1, 4, LEAST, GREATEST}) {
            C.due("12: from HOUR " + beyond + " on", x.best(0, beyond, 0, 0, 0), OUTSIDE);
        }
        x.cut(0);
        C.due("12: the end is nearer now", x.best(0, 2, 0, 0, 0), 1000000);
        C.due("12: what was the end is beyond it", x.best(0, 3, 0, 0, 0), OUTSIDE);
    }

    /** Promises 2, 3, 5, 25: what BEST was ahead of a change is not what it is behind it. */
    private static void bestOfAWayThatChanged() {
        NapVoyage x = new NapVoyage();
        C.due("12: no LEGS", x.best(0, 0, 0, 0, 0), 1000000);
        x.leg(0, 1, 500, 0);
        C.due("12: the first LEG", x.best(0, 0, 0, 0, 0), 990000);
        C.due("12: the end", x.best(0, 1, 0, 0, 0), 1000000);
        x.leg(0, 1, 400, 0);
        C.due("12: one LEG more", x.best(0, 0, 0, 0, 0), Checks.safe(10000, 8000));
        C.due("12: what was the end", x.best(0, 1, 0, 0, 0), 992000);
        x.image(0);
        x.cut(0);
        C.due("12: the last LEG went", x.best(0, 0, 0, 0, 0), 990000);
        x.cut(0);
        C.due("12: no LEGS again", x.best(0, 0, 0, 0, 0), 1000000);
        x.restore(0);
        C.due("12: as it was kept", x.best(0, 0, 0, 0, 0), Checks.safe(10000, 8000));
        x.nap(1, 1, 0);
        C.due("12: a NAP that sees all", x.best(0, 0, 0, 0, 0), 1000000);
        C.due("5: a refused change", x.nap(1, 1, 1001), OUTSIDE);
        C.due("12: changes nothing", x.best(0, 0, 0, 0, 0), 1000000);
        x.leg(1, 1, 500, 1);
        C.due("12: the other WAY", x.best(1, 0, 0, 0, 0), 990000);
    }

    /** Promises 12 to 18 on WAYS without LEGS: the end is HOUR 0. */
    private static void aWayWithoutLegs() {
        NapVoyage x = new NapVoyage();
        for (int way = 0; way <= 1; way++) {
            C.due("12: no LEGS", x.best(way, 0, 20, 24, 4), 1000000);
            C.due("12: no LEGS, HOUR 1", x.best(way, 1, 0, 0, 0), OUTSIDE);
            C.due("13: no LEGS", x.does(way, 0, 20, 24, 4), NONE);
            C.due("13: no LEGS, HOUR 1", x.does(way, 1, 0, 0, 0), OUTSIDE);
            C.due("14: no LEGS, how many", x.logged(way, 20, 24, -1), 0);
            C.due("14: no LEGS, the first", x.logged(way, 20, 24, 0), NONE);
            for (int rule = 0; rule <= 3; rule++) {
                C.due("15: no LEGS, SAFE", x.thumb(way, rule, 20, 0), 1000000);
                C.due("15: no LEGS, LOSES", x.thumb(way, rule, 20, 1), 0);
                C.due("15: no LEGS, OWED", x.thumb(way, rule, 20, 2), 20);
            }
            C.due("16: no LEGS", x.worth(way, 20, 0, 24), 0);
            C.due("18: no LEGS, all SAFE", x.soonest(way, 20, 0, 1000000), 0);
            C.due("18: no LEGS, nothing SAFE", x.soonest(way, 20, 0, 0), 0);
        }
        C.due("17: no LEGS", x.round(20, 24), 0);
    }

    /** Part 3: "so many LIES (0 to 4) being allowed yet": all of these are done where they help, and no more. */
    private static void liesThatAreAllowed() {
        NapVoyage x = liesAlone();
        for (int lies = 0; lies <= 4; lies++) {
            C.due("12: LIES " + lies, x.best(0, 0, 20, 0, lies), 940000 + 5000 * lies);
            C.due("12: LIES " + lies + ", in the SQUALL none can be", x.best(0, 1, 20, 0, lies), 940000);
            C.due("12: LIES " + lies + ", with nothing OWED none helps", x.best(0, 0, 0, 0, lies), 990000);
            C.due("12: LIES " + lies + ", owing 11 one helps", x.best(0, 0, 11, 0, lies), lies == 0 ? 985000 : 990000);
            C.due("13: LIES " + lies, x.does(0, 0, 20, 0, lies), lies == 0 ? 0 : 4);
        }
        C.due("12: LIES -1", x.best(0, 0, 20, 0, -1), OUTSIDE);
        C.due("12: LIES 5", x.best(0, 0, 20, 0, 5), OUTSIDE);
    }

    /** Part 1: "it takes 1 of the BATTERY"; promise 12: "BATTERY", 0 to 24: all of it is used where it helps. */
    private static void batteryAllOfIt() {
        NapVoyage x = bellsAlone(26);
        for (int battery = 0; battery <= 24; battery++) {
            C.due("12: 26 HOURS, BATTERY " + battery, x.best(0, 0, 0, battery, 0), bestOfBells(26, battery));
        }
        C.holds("12: the last one helps", x.best(0, 0, 0, 24, 0) > x.best(0, 0, 0, 23, 0));
        NapVoyage y = bellsAlone(2);
        int[] due = {990025, 993010, 996004, 996004};
        for (int battery = 0; battery <= 3; battery++) {
            C.due("12: 2 HOURS, BATTERY " + battery, y.best(0, 0, 0, battery, 4), due[battery]);
        }
        C.due("12: 2 HOURS, BATTERY 24", y.best(0, 0, 0, 24, 4), 996004);
    }

    /** Part 1: "of NAP 3 2". */
    private static void bellOfNap3TakesTwo() {
        NapVoyage x = of(leg(0, 2, 500, 0));
        x.nap(3, 1, 10);
        int[] due = {Checks.safe(5000, 5000), Checks.safe(5000, 5000), Checks.safe(2000, 2000), Checks.safe(2000, 2000)};
        int[] does = {3, 3, 13, 13};
        for (int battery = 0; battery <= 3; battery++) {
            C.due("12: NAP 3, BATTERY " + battery, x.best(0, 0, 0, battery, 0), due[battery]);
            C.due("13: NAP 3, BATTERY " + battery, x.does(0, 0, 0, battery, 0), does[battery]);
        }
    }

    /** Part 1: "NAP 3, if its second HOUR is one of the WAY, too, without SQUALL", by BEST. */
    private static void nap3NotBeyondTheEnd() {
        NapVoyage x = of(leg(0, 1, 500, 0), leg(1, 1, 500, 0), leg(1, 1, 500, 1), leg(1, 2, 500, 0));
        x.nap(3, 1, 0);
        C.due("12: a WAY of 1 HOUR", x.best(0, 0, 0, 0, 0), 990000);
        C.due("13: a WAY of 1 HOUR", x.does(0, 0, 0, 0, 0), 0);
        C.due("13: ahead of a SQUALL", x.does(1, 0, 0, 0, 0), 0);
        C.due("13: in a SQUALL", x.does(1, 1, 0, 24, 4), 0);
        C.due("13: the last two HOURS", x.does(1, 2, 0, 0, 0), 3);
        C.due("12: the last two HOURS", x.best(1, 2, 0, 0, 0), 1000000);
        C.due("13: the last HOUR", x.does(1, 3, 0, 0, 0), 0);
        NapVoyage y = of(leg(0, 1, 500, 0), leg(0, 1, 100, 0), leg(1, 1, 0, 0), leg(1, 1, 500, 0));
        y.nap(3, 1, 10);
        C.due("12: each HOUR has its own SHIPS", y.best(0, 0, 0, 0, 0), Checks.safe(5000, 1000));
        C.due("12: SHIPS in the second HOUR alone", y.best(1, 0, 0, 0, 0), 995000);
    }

    /** Part 1: "20 at most", "0 at least", by BEST. */
    private static void owedTwentyAtMost() {
        NapVoyage x = of(leg(0, 3, 500, 1), leg(1, 2, 500, 0));
        C.due("12: owing 20 in a SQUALL", x.best(0, 0, 20, 0, 0), Checks.safe(60000, 60000, 60000));
        C.due("12: owing 19 in a SQUALL", x.best(0, 0, 19, 0, 0), Checks.safe(55000, 60000, 60000));
        C.due("12: owing 18 in a SQUALL", x.best(0, 0, 18, 0, 0), Checks.safe(50000, 60000, 60000));
        C.due("12: owing 17 in a SQUALL", x.best(0, 0, 17, 0, 0), Checks.safe(45000, 55000, 60000));
        C.due("12: owing 20 by WATCH", x.best(1, 0, 20, 0, 0), Checks.safe(60000, 60000));
        C.due("12: owing 9 by WATCH", x.best(1, 0, 9, 0, 0), Checks.safe(10000, 10000));
        C.due("12: owing 10 by WATCH", x.best(1, 0, 10, 0, 0), Checks.safe(10000, 15000));
        x.nap(1, 1, 0);
        C.due("12: owing 0 by NAP 1", x.best(1, 0, 0, 0, 0), 1000000);
    }

    /** Part 1: "48 HOURS at most", by BEST. */
    private static void bestOf48Hours() {
        int[] risks = new int[48];
        for (int hour = 0; hour < 48; hour++) {
            risks[hour] = 500 * (20 + 10 * Math.max(0, Math.min(20, 2 * hour) - 10));
        }
        NapVoyage x = of(leg(0, 24, 500, 1), leg(0, 24, 500, 1));
        C.due("12: 48 HOURS of SQUALL", x.best(0, 0, 0, 24, 4), Checks.safe(risks));
        C.due("12: HOUR 47", x.best(0, 47, 0, 24, 4), 990000);
        C.due("12: HOUR 48", x.best(0, 48, 0, 24, 4), 1000000);
        C.due("12: HOUR 49", x.best(0, 49, 0, 24, 4), OUTSIDE);
        C.due("13: HOUR 47", x.does(0, 47, 0, 24, 4), 0);
        C.due("13: HOUR 48", x.does(0, 48, 0, 24, 4), NONE);
        C.due("13: HOUR 49", x.does(0, 49, 0, 24, 4), OUTSIDE);
        NapVoyage y = bellsAlone(48);
        C.due("12: 48 HOURS, BATTERY 24", y.best(0, 0, 0, 24, 4), bestOfBells(48, 24));
        C.due("12: 48 HOURS, BATTERY 0", y.best(0, 0, 0, 0, 0), bestOfBells(48, 0));
    }

    /** Promise 12: "UNKNOWN; OUTSIDE: HOUR, OWED, BATTERY, LIES that are allowed yet (0 to 4)". */
    private static void bestRanges() {
        NapVoyage x = liesAlone();
        for (int way : BEYOND_WAYS) {
            C.due("12: WAY " + way, x.best(way, 0, 0, 0, 0), UNKNOWN);
        }
        for (int owed : BEYOND_OWED) {
            C.due("12: OWED " + owed, x.best(0, 0, owed, 0, 0), OUTSIDE);
            C.due("12: OWED " + owed + " at the end", x.best(0, 2, owed, 0, 0), OUTSIDE);
        }
        for (int battery : BEYOND_BATTERY) {
            C.due("12: BATTERY " + battery, x.best(0, 0, 0, battery, 0), OUTSIDE);
            C.due("12: BATTERY " + battery + " at the end", x.best(0, 2, 0, battery, 0), OUTSIDE);
        }
        for (int lies : new int[] {-1, 5, LEAST, GREATEST}) {
            C.due("12: LIES " + lies, x.best(0, 0, 0, 0, lies), OUTSIDE);
            C.due("12: LIES " + lies + " at the end", x.best(0, 2, 0, 0, lies), OUTSIDE);
        }
        C.due("12: the least of all", x.best(0, 0, 0, 0, 0), 990000);
        C.due("12: the most of all", x.best(0, 1, 20, 24, 4), 940000);
    }

    /** Promise 13: "NONE at the end". */
    private static void doesNoneAtTheEnd() {
        NapVoyage x = liesAlone();
        C.due("13: the last HOUR", x.does(0, 1, 0, 0, 0), 0);
        C.due("13: the end", x.does(0, 2, 0, 0, 0), NONE);
        C.due("13: the end, the most of all", x.does(0, 2, 20, 24, 4), NONE);
        C.due("13: beyond it", x.does(0, 3, 0, 0, 0), OUTSIDE);
        C.due("13: ahead of it all", x.does(0, -1, 0, 0, 0), OUTSIDE);
    }

    /** Part 3: "the first THING by which it is so: in the order WATCH, 1, 2, 3, LIE". */
    private static void doesTheFirst() {
        int[] deep = {19, 20, 21};
        int[] due = {1, 0, 0};
        for (int i = 0; i < 3; i++) {
            NapVoyage x = of(leg(0, 1, 500, 0));
            x.nap(1, 1, deep[i]);
            C.due("13: WATCH by 20, NAP 1 by " + deep[i], x.does(0, 0, 0, 0, 0), due[i]);
            x.nap(2, 1, deep[i]);
            C.due("13: NAP 2 likewise", x.does(0, 0, 0, 0, 0), due[i]);
            x.nap(1, 1, 500);
            C.due("13: NAP 2 alone", x.does(0, 0, 0, 0, 0), 2 * due[i]);
        }
        NapVoyage y = of(leg(0, 2, 500, 0));
        y.nap(3, 1, 0);
        C.due("13: NAP 3", y.does(0, 0, 0, 0, 0), 3);
        y.nap(2, 1, 0);
        C.due("13: NAP 2 is ahead of NAP 3", y.does(0, 0, 0, 0, 0), 2);
        y.nap(1, 1, 0);
        C.due("13: NAP 1 is ahead of NAP 2", y.does(0, 0, 0, 0, 0), 1);
        C.due("13: WATCH is ahead of NAP 1", of(leg(0, 2, 0, 0)).does(0, 0, 20, 24, 4), 0);
        // Owing 11 ahead of a SQUALL: with 10 or less at its beginning all are alike.
        NapVoyage z = of(leg(0, 1, 0, 0), leg(0, 1, 500, 1));
        C.due("13: NAP 1 is ahead of LIE", z.does(0, 0, 11, 0, 4), 1);
        z.nap(1, 0, 0);
        C.due("13: NAP 2 is ahead of LIE", z.does(0, 0, 11, 0, 4), 2);
        z.nap(2, 0, 0);
        C.due("13: LIE is the last one", z.does(0, 0, 11, 0, 4), 4);
        C.due("13: no LIE is allowed", z.does(0, 0, 11, 0, 0), 1);
        C.due("13: owing 10, NAP 1 stays there", z.does(0, 0, 10, 0, 4), 1);
        C.due("13: owing 9, WATCH does no harm", z.does(0, 0, 9, 0, 4), 0);
    }

    /** Part 3: "each without the BELL ahead of with it (10 more)". */
    private static void doesWithoutTheBellFirst() {
        for (int nap = 1; nap <= 3; nap++) {
            NapVoyage x = of(leg(0, 2, 500, 0));
            for (int other = 1; other <= 3; other++) {
                x.nap(other, 1, other == nap ? 3 : 500);
            }
            C.due("13: NAP " + nap + " with the BELL", x.does(0, 0, 0, 24, 0), 10 + nap);
            C.due("13: NAP " + nap + " without BATTERY", x.does(0, 0, 0, 0, 0), nap);
            x.nap(nap, 1, 0);
            C.due("13: NAP " + nap + ", the BELL helping nothing", x.does(0, 0, 0, 24, 0), nap);
        }
        NapVoyage y = liesAlone();
        C.due("13: LIE, the BELL helping nothing", y.does(0, 0, 20, 24, 4), 4);
        NapVoyage z = of(leg(0, 1, 1, 0), leg(0, 2, 500, 1));
        C.due("13: LIE with the BELL", z.does(0, 0, 14, 24, 4), 14);
        C.due("13: LIE without BATTERY", z.does(0, 0, 14, 0, 4), 4);
        C.due("13: LIE, the BELL not being heard", z.does(0, 0, 20, 24, 4), 4);
        // DEEP 1 with the BELL is BLIND by 0, as NAP 3 of DEEP 0 is.
        NapVoyage v = of(leg(0, 2, 500, 0));
        v.nap(2, 1, 1);
        v.nap(3, 1, 0);
        C.due("13: NAP 2 with the BELL is ahead of NAP 3", v.does(0, 0, 0, 2, 0), 12);
        C.due("13: BATTERY for one HOUR alone", v.does(0, 0, 0, 1, 0), 3);
    }

    /** Promise 13: "UNKNOWN; OUTSIDE, likewise". */
    private static void doesRanges() {
        NapVoyage x = liesAlone();
        for (int way : BEYOND_WAYS) {
            C.due("13: WAY " + way, x.does(way, 0, 0, 0, 0), UNKNOWN);
        }
        for (int hour : new int[] {-1, 3, LEAST, GREATEST}) {
            C.due("13: HOUR " + hour, x.does(0, hour, 0, 0, 0), OUTSIDE);
        }
        for (int owed : BEYOND_OWED) {
            C.due("13: OWED " + owed, x.does(0, 0, owed, 0, 0), OUTSIDE);
            C.due("13: OWED " + owed + " at the end, not NONE", x.does(0, 2, owed, 0, 0), OUTSIDE);
        }
        for (int battery : BEYOND_BATTERY) {
            C.due("13: BATTERY " + battery, x.does(0, 0, 0, battery, 0), OUTSIDE);
            C.due("13: BATTERY " + battery + " at the end, not NONE", x.does(0, 2, 0, battery, 0), OUTSIDE);
        }
        for (int lies : new int[] {-1, 5, LEAST, GREATEST}) {
            C.due("13: LIES " + lies, x.does(0, 0, 0, 0, lies), OUTSIDE);
            C.due("13: LIES " + lies + " at the end, not NONE", x.does(0, 2, 0, 0, lies), OUTSIDE);
        }
    }

    /** Promise 14: "how many THINGS (i = -1), the i-th (as DOES); NONE". */
    private static void loggedHowMany() {
        NapVoyage x = bellsAlone(2);
        C.due("14: how many", x.logged(0, 0, 2, -1), 2);
        C.due("14: the first, 10 more with the BELL", x.logged(0, 0, 2, 0), 11);
        C.due("14: the last", x.logged(0, 0, 2, 1), 11);
        for (int i : new int[] {2, 3, 47, 48, 52, 53, GREATEST - 1, GREATEST, -2, -3, LEAST, LEAST + 1}) {
            C.due("14: i " + i, x.logged(0, 0, 2, i), NONE);
        }
        // BATTERY for one HOUR alone: it goes where there are more SHIPS, and is gone then.
        NapVoyage y = bellsAlone(1);
        y.leg(0, 1, 100, 0);
        C.due("14: the BELL", y.logged(0, 0, 1, 0), 11);
        C.due("14: no BATTERY is left", y.logged(0, 0, 1, 1), 1);
        C.due("14: a second BELL", y.logged(0, 0, 2, 1), 11);
    }

    /** Part 3: "LOGGED: the row of these from HOUR 0 on, 4 LIES allowed". */
    private static void loggedFourLies() {
        NapVoyage x = liesAlone();
        int[] due = {4, 4, 4, 4, 1, 0, NONE};
        C.due("14: how many, owing 20", x.logged(0, 20, 0, -1), 6);
        for (int i = 0; i < due.length; i++) {
            C.due("14: owing 20, number " + i, x.logged(0, 20, 0, i), due[i]);
        }
        // Owing 11, one LIE is enough and NAP 1 stays there; owing 0, WATCH.
        C.due("14: how many, owing 11", x.logged(0, 11, 0, -1), 3);
        C.due("14: owing 11, a LIE", x.logged(0, 11, 0, 0), 4);
        C.due("14: owing 11, no LIE more", x.logged(0, 11, 0, 1), 1);
        // NAP 2 alone gives, 2 in each of two HOURS: from 17 to 10 three LIES are needed, and the fourth is not.
        NapVoyage y = of(leg(0, 2, 0, 0), leg(0, 1, 500, 1));
        y.nap(1, 0, 0);
        y.nap(3, 0, 0);
        int[] threeLies = {2, 4, 4, 4, 2, 0, NONE};
        for (int i = 0; i < threeLies.length; i++) {
            C.due("14: owing 17, number " + i, y.logged(0, 17, 0, i), threeLies[i]);
        }
        C.due("14: how many, owing 0", x.logged(0, 0, 0, -1), 2);
        C.due("14: owing 0, WATCH", x.logged(0, 0, 0, 0), 0);
    }

    /** "48 HOURS at most" and "4 LIES allowed": a LOG of 52 THINGS is the longest one. */
    private static void loggedTheLongest() {
        NapVoyage x = of(leg(0, 1, 0, 0), leg(0, 24, 500, 1), leg(0, 23, 500, 1));
        C.due("14: how many", x.logged(0, 20, 24, -1), 52);
        C.due("14: the fourth LIE", x.logged(0, 20, 24, 3), 4);
        C.due("14: NAP 2", x.logged(0, 20, 24, 4), 2);
        C.due("14: WATCH", x.logged(0, 20, 24, 5), 0);
        C.due("14: the last one", x.logged(0, 20, 24, 51), 0);
        C.due("14: behind it", x.logged(0, 20, 24, 52), NONE);
        NapVoyage y = of(leg(1, 24, 500, 0), leg(1, 24, 500, 0));
        y.nap(3, 1, 0);
        C.due("14: 24 NAPS 3", y.logged(1, 0, 0, -1), 24);
        C.due("14: the last of them", y.logged(1, 0, 0, 23), 3);
        C.due("14: behind them", y.logged(1, 0, 0, 24), NONE);
    }

    /** Promise 14: "UNKNOWN; OUTSIDE", both ahead of NONE. */
    private static void loggedRanges() {
        NapVoyage x = liesAlone();
        for (int i : new int[] {-1, 0, 99, -2, LEAST, GREATEST}) {
            for (int way : BEYOND_WAYS) {
                C.due("14: WAY " + way + ", i " + i, x.logged(way, 0, 0, i), UNKNOWN);
            }
            for (int owed : BEYOND_OWED) {
                C.due("14: OWED " + owed + ", i " + i, x.logged(0, owed, 0, i), OUTSIDE);
            }
            for (int battery : BEYOND_BATTERY) {
                C.due("14: BATTERY " + battery + ", i " + i, x.logged(0, 0, battery, i), OUTSIDE);
            }
        }
    }

    private static void thumbOwes(String what, int rule, int owed, int due, int[]... legs) {
        C.due("15: " + what, of(legs).thumb(0, rule, owed, 2), due);
    }

    private static void thumbSafe(String what, int rule, int owed, int due, int[]... legs) {
        C.due("15: " + what, of(legs).thumb(0, rule, owed, 0), due);
    }

    /** Part 3: "CLOCK: NAP 1 in odd HOURS". */
    private static void clockInOddHours() {
        thumbOwes("HOUR 0 is even", 0, 9, 10, leg(0, 1, 0, 0));
        thumbOwes("HOUR 1 is odd", 0, 9, 9, leg(0, 2, 0, 0));
        thumbOwes("HOUR 1, the first of its LEG", 0, 9, 9, leg(0, 1, 0, 0), leg(0, 1, 0, 0));
        thumbOwes("HOUR 2 is even", 0, 9, 10, leg(0, 3, 0, 0));
        thumbOwes("HOUR 1 owing 0 and 1", 0, 0, 0, leg(0, 2, 0, 0));
        thumbOwes("HOUR 1 is of a SQUALL", 0, 9, 12, leg(0, 1, 0, 0), leg(0, 1, 0, 1));
        thumbSafe("HOUR 46", 0, 0, 990000, leg(0, 24, 0, 0), leg(0, 22, 0, 0), leg(0, 1, 500, 0));
        thumbSafe("HOUR 47", 0, 0, 900000, leg(0, 24, 0, 0), leg(0, 23, 0, 0), leg(0, 1, 500, 0));
        thumbSafe("HOUR 47 of a SQUALL", 0, 0, 990000, leg(0, 24, 0, 0), leg(0, 23, 0, 0), leg(0, 1, 500, 1));
    }

    /** Part 3: "OWES: when OWED is 8 or more". */
    private static void owesEightOrMore() {
        thumbOwes("OWES, owing 7", 1, 7, 8, leg(0, 1, 100, 0));
        thumbOwes("OWES, owing 8", 1, 8, 6, leg(0, 1, 100, 0));
        thumbOwes("OWES, owing 0", 1, 0, 1, leg(0, 1, 100, 0));
        thumbOwes("OWES, owing 20", 1, 20, 18, leg(0, 1, 100, 0));
        thumbSafe("OWES, owing 7", 1, 7, 998000, leg(0, 1, 100, 0));
        thumbSafe("OWES, owing 8", 1, 8, 950000, leg(0, 1, 100, 0));
        thumbSafe("OWES, owing 8, two HOURS", 1, 8, Checks.safe(80000, 80000), leg(0, 2, 100, 0));
        thumbSafe("OWES, owing 7 and 8", 1, 7, Checks.safe(2000, 50000), leg(0, 2, 100, 0));
    }

    /** Part 3: "LANES: when it is 4 or more". */
    private static void lanesFourOrMore() {
        thumbOwes("LANES, owing 3", 2, 3, 4, leg(0, 1, 0, 0));
        thumbOwes("LANES, owing 4", 2, 4, 2, leg(0, 1, 0, 0));
        thumbOwes("LANES, owing 0", 2, 0, 1, leg(0, 1, 0, 0));
        thumbOwes("LANES, owing 20", 2, 20, 18, leg(0, 1, 0, 0));
    }

    /** Part 3: "and SHIPS are less than 50": those of the HOUR in which it is begun. */
    private static void lanesShipsLessThan50() {
        thumbOwes("LANES, SHIPS 49", 2, 9, 7, leg(0, 1, 49, 0));
        thumbOwes("LANES, SHIPS 50", 2, 9, 10, leg(0, 1, 50, 0));
        thumbOwes("LANES, SHIPS 0", 2, 9, 7, leg(0, 1, 0, 0));
        thumbOwes("LANES, SHIPS 500", 2, 9, 10, leg(0, 1, 500, 0));
        thumbOwes("LANES, SHIPS 49, then 500", 2, 9, 3, leg(0, 1, 49, 0), leg(0, 1, 500, 0));
        thumbOwes("LANES, SHIPS 50, then 49", 2, 9, 8, leg(0, 1, 50, 0), leg(0, 1, 49, 0));
        thumbOwes("OWES looks at no SHIPS", 1, 9, 7, leg(0, 1, 500, 0));
    }

    /** Part 3: "NIGHTS: when it is 1 or more and it is NIGHT". */
    private static void nightsOneOrMore() {
        // From 0 on: 12 behind HOUR 11; NAPS 3 by NIGHT: 5 behind HOUR 13, 0 behind HOUR 15; WATCH, NAP 3 and so on.
        thumbOwes("NIGHTS, HOUR 15 is the last", 3, 0, 0, leg(0, 16, 0, 0));
        thumbOwes("NIGHTS, owing 0 in HOUR 16", 3, 0, 1, leg(0, 17, 0, 0));
        thumbOwes("NIGHTS, owing 1 in HOUR 17, the last", 3, 0, 0, leg(0, 18, 0, 0));
        thumbSafe("NIGHTS, owing 0 in HOUR 16", 3, 0, 990000, leg(0, 16, 0, 0), leg(0, 1, 500, 0));
        thumbSafe("NIGHTS, owing 1 in HOUR 17, the last", 3, 0, 750000, leg(0, 17, 0, 0), leg(0, 1, 500, 0));
        thumbSafe("NIGHTS, owing 1 in HOUR 17", 3, 0, 600000, leg(0, 17, 0, 0), leg(0, 1, 500, 0), leg(0, 1, 0, 0));
    }

    /** Part 3: "and it is NIGHT": HOURS 12 to 23, 36 to 47. */
    private static void nightsByNight() {
        thumbOwes("NIGHTS, HOUR 11 is the last", 3, 0, 12, leg(0, 12, 0, 0));
        thumbOwes("NIGHTS, HOUR 12 is the last", 3, 0, 9, leg(0, 13, 0, 0));
        thumbOwes("NIGHTS, HOUR 13 is the last", 3, 0, 5, leg(0, 14, 0, 0));
        thumbOwes("NIGHTS, HOUR 0, owing 20", 3, 20, 20, leg(0, 1, 0, 0));
        // NAP 3 of HOURS 20 and 21, WATCH in HOUR 22, owing 1 in HOUR 23.
        thumbOwes("NIGHTS, HOUR 23 is the last", 3, 0, 0, leg(0, 24, 0, 0));
        thumbOwes("NIGHTS, NAP 3 in HOUR 23 goes into day", 3, 0, 0, leg(0, 24, 0, 0), leg(0, 1, 0, 0));
        thumbOwes("NIGHTS, HOUR 25 is day", 3, 0, 1, leg(0, 24, 0, 0), leg(0, 2, 0, 0));
        thumbOwes("NIGHTS, HOUR 24 is day, owing 3", 3, 0, 4, leg(0, 23, 0, 0), leg(0, 1, 0, 1), leg(0, 1, 0, 0));
        // From HOUR 25 on WATCH: 11 behind HOUR 35.
        thumbOwes("NIGHTS, HOUR 35 is day", 3, 0, 11, leg(0, 24, 0, 0), leg(0, 12, 0, 0));
        thumbOwes("NIGHTS, HOUR 36 is NIGHT", 3, 0, 8, leg(0, 24, 0, 0), leg(0, 13, 0, 0));
    }

    /** Part 3: "NAP 3, if it can be, else NAP 2". */
    private static void thumbNap3ElseNap2() {
        for (int rule = 1; rule <= 2; rule++) {
            thumbOwes("two HOURS are left", rule, 20, 14, leg(0, 2, 0, 0));
            thumbOwes("one HOUR is left", rule, 20, 18, leg(0, 1, 0, 0));
            thumbOwes("the next HOUR is of a SQUALL", rule, 20, 20, leg(0, 1, 0, 0), leg(0, 1, 0, 1));
            thumbOwes("the one behind it is", rule, 20, 16, leg(0, 2, 0, 0), leg(0, 1, 0, 1));
            thumbOwes("NAP 3, then one HOUR is left", rule, 20, 12, leg(0, 3, 0, 0));
        }
        // 12 behind HOUR 11; NAP 2 by NIGHT gives 3, in the SQUALL 2 more.
        thumbOwes("NIGHTS, the next HOUR is of a SQUALL", 3, 0, 11, leg(0, 13, 0, 0), leg(0, 1, 0, 1));
    }

    /** Part 3: "where none of that can be, or is said, WATCH". */
    private static void thumbWatchWhereNoneCanBe() {
        for (int rule = 0; rule <= 3; rule++) {
            thumbOwes("rule " + rule + ", all of it SQUALL", rule, 0, 20, leg(0, 24, 0, 1), leg(0, 24, 0, 1));
            thumbOwes("rule " + rule + ", one HOUR of SQUALL", rule, 9, 11, leg(0, 1, 0, 1));
        }
        thumbOwes("OWES, 20 in a SQUALL", 1, 20, 20, leg(0, 1, 0, 1));
    }

    /** Part 3: "LOSES: BEST (4 LIES, no BATTERY) less SAFE of the THUMB". */
    private static void thumbLoses() {
        NapVoyage x = liesAlone();
        for (int rule = 0; rule <= 3; rule++) {
            C.due("15: LIES would help, rule " + rule, x.thumb(0, rule, 20, 0), 940000);
            C.due("15: LOSES against 4 LIES, rule " + rule, x.thumb(0, rule, 20, 1), 20000);
            C.due("15: LOSES nothing, rule " + rule, x.thumb(0, rule, 0, 1), 0);
        }
        NapVoyage y = bellsAlone(1);
        C.due("15: a BELL would help", y.thumb(0, 0, 0, 0), 990000);
        C.due("15: LOSES against no BATTERY", y.thumb(0, 0, 0, 1), 5000);
    }

    /** Promise 15: "SAFE (what = 0), LOSES (1), OWED at the end (2). UNKNOWN; OUTSIDE". */
    private static void thumbRanges() {
        NapVoyage x = liesAlone();
        for (int way : BEYOND_WAYS) {
            C.due("15: WAY " + way, x.thumb(way, 0, 0, 0), UNKNOWN);
        }
        for (int rule : new int[] {-1, 4, LEAST, GREATEST}) {
            C.due("15: rule " + rule, x.thumb(0, rule, 0, 0), OUTSIDE);
        }
        for (int owed : BEYOND_OWED) {
            C.due("15: OWED " + owed, x.thumb(0, 0, owed, 0), OUTSIDE);
        }
        for (int what : new int[] {-1, 3, LEAST, GREATEST}) {
            C.due("15: what " + what, x.thumb(0, 0, 0, what), OUTSIDE);
            C.due("15: what " + what + " of no HOURS", x.thumb(1, 0, 0, what), OUTSIDE);
        }
        C.due("15: rule 0", x.thumb(0, 0, 0, 2), 3);
        C.due("15: rule 3", x.thumb(0, 3, 20, 2), 20);
    }

    /** Promise 16: "BATTERY and more, together 24 at most"; part 3: "BEST (4 LIES) with it less BEST without". */
    private static void worthTogether24() {
        NapVoyage x = bellsAlone(26);
        for (int battery = 0; battery <= 24; battery++) {
            int more = 24 - battery;
            C.due("16: " + battery + " and " + more, x.worth(0, 0, battery, more), bestOfBells(26, 24) - bestOfBells(26, battery));
            C.due("16: " + battery + " and " + (more + 1), x.worth(0, 0, battery, more + 1), OUTSIDE);
            C.due("16: " + battery + " and none", x.worth(0, 0, battery, 0), 0);
        }
        C.due("16: the last one", x.worth(0, 0, 23, 1), bestOfBells(26, 24) - bestOfBells(26, 23));
        NapVoyage y = of(leg(0, 1, 1, 0), leg(0, 2, 500, 1));
        int withLies = y.best(0, 0, 14, 4, 4) - y.best(0, 0, 14, 0, 4);
        C.holds("16: LIES make another WORTH", withLies != y.best(0, 0, 14, 4, 0) - y.best(0, 0, 14, 0, 0));
        C.due("16: by 4 LIES", y.worth(0, 14, 0, 4), withLies);
    }

    /** Promise 16: "UNKNOWN; OUTSIDE". */
    private static void worthRanges() {
        NapVoyage x = liesAlone();
        for (int way : BEYOND_WAYS) {
            C.due("16: WAY " + way, x.worth(way, 0, 0, 0), UNKNOWN);
        }
        for (int owed : BEYOND_OWED) {
            C.due("16: OWED " + owed, x.worth(0, owed, 0, 0), OUTSIDE);
        }
        for (int battery : BEYOND_BATTERY) {
            C.due("16: BATTERY " + battery, x.worth(0, 0, battery, 0), OUTSIDE);
            C.due("16: more " + battery, x.worth(0, 0, 0, battery), OUTSIDE);
        }
        C.due("16: 24 and -1", x.worth(0, 0, 24, -1), OUTSIDE);
        C.due("16: a sum beyond ints", x.worth(0, 0, 24, GREATEST), OUTSIDE);
        C.due("16: another one", x.worth(0, 0, GREATEST, GREATEST), OUTSIDE);
        C.due("16: a sum of 0", x.worth(0, 0, GREATEST, -GREATEST), OUTSIDE);
        C.due("16: owing 20", x.worth(0, 20, 0, 24), 0);
    }

    /** Part 3: "ROUND: the WAY that is safer by that (0, if alike)". */
    private static void round0IfAlike() {
        // WAY 0 by WATCH in a SQUALL: a RISK of 20. WAY 1 by NAP 1: as many as SHIPS, with the BELL none.
        int[] ships = {19, 20, 21};
        int[] due = {1, 0, 0};
        for (int i = 0; i < 3; i++) {
            NapVoyage x = of(leg(0, 1, 1, 1), leg(1, 1, ships[i], 0));
            x.nap(1, 1, 1);
            C.due("17: RISK 20 and " + ships[i], x.round(0, 0), due[i]);
            C.due("17: RISK 20 and " + ships[i] + ", with the BELL", x.round(0, 1), 1);
        }
        C.due("17: both without LEGS", new NapVoyage().round(0, 0), 0);
        C.due("17: WAY 0 without LEGS", of(leg(1, 1, 1, 0)).round(0, 0), 0);
        C.due("17: WAY 1 without LEGS", of(leg(0, 1, 1, 0)).round(0, 0), 1);
        C.due("17: WAY 1 without LEGS, no SHIPS on WAY 0", of(leg(0, 1, 0, 0)).round(0, 0), 0);
        // By 4 LIES WAY 0 makes 960000, by 3 of them 955000; on WAY 1, owing 20, SHIPS have a RISK of 120 each.
        NapVoyage y = liesAlone();
        y.leg(1, 1, 333, 1);
        C.due("17: 960000 and 960040", y.round(20, 0), 1);
        y.cut(1);
        y.leg(1, 1, 334, 1);
        C.due("17: 960000 and 959920", y.round(20, 0), 0);
    }

    /** Promise 17: "OUTSIDE". */
    private static void roundRanges() {
        NapVoyage x = of(leg(0, 1, 500, 0));
        C.due("17: the least", x.round(0, 0), 1);
        C.due("17: the most", x.round(20, 24), 1);
        for (int owed : BEYOND_OWED) {
            C.due("17: OWED " + owed, x.round(owed, 0), OUTSIDE);
        }
        for (int battery : BEYOND_BATTERY) {
            C.due("17: BATTERY " + battery, x.round(0, battery), OUTSIDE);
        }
    }

    /** Part 3: "the least number of HOURS of the WAY and LIES allowed by which BEST is no less than told". */
    private static void soonestNoLessThanTold() {
        NapVoyage x = liesAlone();
        C.due("18: 0", x.soonest(0, 20, 0, 0), 2);
        for (int lies = 0; lies <= 4; lies++) {
            int safe = 940000 + 5000 * lies;
            C.due("18: just less than " + lies + " LIES make", x.soonest(0, 20, 0, safe - 1), 2 + lies);
            C.due("18: what " + lies + " LIES make", x.soonest(0, 20, 0, safe), 2 + lies);
            C.due("18: just more", x.soonest(0, 20, 0, safe + 1), lies == 4 ? NONE : 3 + lies);
        }
        C.due("18: 1000000, no SHIPS", of(leg(1, 24, 0, 0), leg(1, 24, 0, 0)).soonest(1, 20, 24, 1000000), 48);
        NapVoyage y = bellsAlone(1);
        C.due("18: by BATTERY", y.soonest(0, 0, 1, 998000), 1);
        C.due("18: just more by BATTERY", y.soonest(0, 0, 1, 998001), NONE);
        C.due("18: without BATTERY", y.soonest(0, 0, 0, 998000), NONE);
    }

    /** Promise 18: "NONE: with 4 LIES neither". */
    private static void soonestNone() {
        NapVoyage x = liesAlone();
        C.due("18: what 4 LIES make", x.soonest(0, 20, 0, 960000), 6);
        C.due("18: one more", x.soonest(0, 20, 0, 960001), NONE);
        C.due("18: 1000000", x.soonest(0, 20, 0, 1000000), NONE);
        // A fifth LIE would be enough.
        C.due("18: 965000", x.soonest(0, 20, 24, 965000), NONE);
    }

    /** Promise 18: "UNKNOWN; OUTSIDE: SAFE 0 to 1000000". */
    private static void soonestRanges() {
        NapVoyage x = liesAlone();
        for (int way : BEYOND_WAYS) {
            C.due("18: WAY " + way, x.soonest(way, 0, 0, 0), UNKNOWN);
        }
        for (int owed : BEYOND_OWED) {
            C.due("18: OWED " + owed, x.soonest(0, owed, 0, 0), OUTSIDE);
        }
        for (int battery : BEYOND_BATTERY) {
            C.due("18: BATTERY " + battery, x.soonest(0, 0, battery, 0), OUTSIDE);
        }
        for (int safe : new int[] {-1, 1000001, LEAST, GREATEST}) {
            C.due("18: SAFE " + safe, x.soonest(0, 0, 0, safe), OUTSIDE);
            C.due("18: SAFE " + safe + " of no HOURS", x.soonest(1, 0, 0, safe), OUTSIDE);
        }
        C.due("18: SAFE 0", x.soonest(0, 20, 24, 0), 2);
        C.due("18: SAFE 1000000", x.soonest(1, 20, 24, 1000000), 0);
    }
}
