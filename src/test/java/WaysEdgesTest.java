/**
 * Promises 1 to 7 and part 1 of the Terms at their edges: a method for each sentence that names one,
 * with the sentence above it.
 */
public final class WaysEdgesTest {
    private static final int UNKNOWN = -1, OUTSIDE = -2, STATE = -3, FULL = -4, NO = -5, NONE = -6;
    private static final int LEAST = Integer.MIN_VALUE, GREATEST = Integer.MAX_VALUE;
    private static final int WATCH = 0, NAP_1 = 1, NAP_2 = 2, NAP_3 = 3, LIE = 4;
    private static final Checks C = new Checks();

    public static void main(String[] args) {
        noLegsAtFirst();
        thePadIsEmptyAtFirst();
        napsAtFirst();
        noImageAtFirst();
        ways0And1();
        eightLegs();
        fortyEightHours();
        hoursOfALeg();
        ships();
        squall();
        cutToNone();
        aboutALeg();
        hoursFrom0On();
        night();
        napsGiveAndDeep();
        owed0To20();
        watchTwentyAtMost();
        watchInASquall();
        napsNoughtAtLeast();
        napsByNight();
        nap3NightOfTheFirst();
        nap3SecondHour();
        lieNoughtAtLeast();
        lieTheSameHourAgain();
        inASquallWatchAlone();
        overNoughtAtLeast();
        blindOfNapsThousandAtMost();
        blindOfLie();
        heardNoughtAtLeast();
        bellNotOfWatch();
        blindIsCut();
        riskLeastAndMost();
        riskOfThatHour();
        C.end("WaysEdgesTest");
    }

    private static NapVoyage of(int[]... legs) {
        return Checks.of(legs);
    }

    private static int[] leg(int way, int hours, int ships, int squall) {
        return Checks.leg(way, hours, ships, squall);
    }

    /** Two days and two nights of SHIPS 100 on WAY 0. */
    private static NapVoyage twoDays() {
        return of(leg(0, 24, 100, 0), leg(0, 24, 100, 0));
    }

    /** Promise 1: "No LEGS"; Terms: "none at first". */
    private static void noLegsAtFirst() {
        for (int way = 0; way <= 1; way++) {
            NapVoyage x = new NapVoyage();
            String of = "1: WAY " + way + " without LEGS, ";
            C.due(of + "LEGS", x.told(1 + way), 0);
            C.due(of + "HOURS", x.told(3 + way), 0);
            C.due(of + "about LEG 0", x.about(way, 0, 0), UNKNOWN);
            C.due(of + "cut", x.cut(way), NO);
            C.due(of + "owed in HOUR 0", x.owed(way, 0, 0, WATCH), OUTSIDE);
            C.due(of + "risk of HOUR 0", x.risk(way, 0, 0, WATCH, 0), OUTSIDE);
            C.due(of + "the first LEG begins at 0", x.leg(way, 1, 1, 0) + x.about(way, 0, 3), 1);
        }
    }

    /** Promise 1: "the PAD is empty". */
    private static void thePadIsEmptyAtFirst() {
        NapVoyage x = new NapVoyage();
        C.due("1: signs", x.told(0), 0);
        C.due("1: fault", x.fault(), NONE);
        C.due("1: wipe", x.wipe(), 0);
        C.due("1: the first sign", x.say('w'), 1);
    }

    /** Terms: "(1, 2, 6 at first)", "(200, 500, 800 at first)". */
    private static void napsAtFirst() {
        int[] due = {1, 2, 6, 200, 500, 800};
        for (int i = 0; i < 6; i++) {
            NapVoyage x = new NapVoyage();
            C.due("1: told(" + (5 + i) + ")", x.told(5 + i), due[i]);
            C.due("5: which it was at first", x.nap(1 + i % 3, i / 3, 0), due[i]);
        }
    }

    /** Promise 25: "STATE: it was not" kept, as none is by a new object. */
    private static void noImageAtFirst() {
        C.due("25: restore(0) of a new object", new NapVoyage().restore(0), STATE);
        C.due("25: restore(1) of a new object", new NapVoyage().restore(1), STATE);
    }

    /** Terms: "WAYS 0 and 1", "UNKNOWN (there is no such LEG, WAY)". */
    private static void ways0And1() {
        NapVoyage x = of(leg(0, 2, 10, 0), leg(1, 3, 20, 0));
        C.due("2: of WAY 0", x.about(0, 0, 0), 2);
        C.due("2: of WAY 1", x.about(1, 0, 0), 3);
        for (int way : new int[] {-1, 2, LEAST, GREATEST}) {
            C.due("2: WAY " + way, x.leg(way, 1, 0, 0), UNKNOWN);
            C.due("3: WAY " + way, x.cut(way), UNKNOWN);
            C.due("4: WAY " + way, x.about(way, 0, 0), UNKNOWN);
            C.due("6: WAY " + way, x.owed(way, 0, 0, WATCH), UNKNOWN);
            C.due("7: WAY " + way, x.risk(way, 0, 0, WATCH, 0), UNKNOWN);
        }
    }

    /** Terms: "8 .. at most of each"; promise 2: "FULL: 8 LEGS". */
    private static void eightLegs() {
        for (int way = 0; way <= 1; way++) {
            NapVoyage x = new NapVoyage();
            for (int n = 1; n <= 8; n++) {
                C.due("2: LEG " + n, x.leg(way, 1, n, 0), n);
            }
            C.due("2: one more than 8 LEGS", x.leg(way, 1, 9, 0), FULL);
            C.due("2: 8 LEGS stand", x.told(1 + way), 8);
            C.due("2: the eighth one stands", x.about(way, 7, 1), 8);
            C.due("2: there is no ninth", x.about(way, 8, 1), UNKNOWN);
            C.due("2: the other WAY has room", x.leg(1 - way, 1, 1, 0), 1);
            C.due("2: one goes", x.cut(way), 7);
            C.due("2: there is room for one", x.leg(way, 2, 77, 0), 9);
            C.due("2: and no more", x.leg(way, 1, 1, 0), FULL);
        }
    }

    /** Terms: "48 HOURS at most of each"; promise 2: "more than 48 HOURS would be there". */
    private static void fortyEightHours() {
        for (int way = 0; way <= 1; way++) {
            NapVoyage x = of(leg(way, 24, 1, 0), leg(way, 23, 2, 0));
            C.due("2: 49 HOURS by 2 more", x.leg(way, 2, 3, 0), FULL);
            C.due("2: 71 HOURS by 24 more", x.leg(way, 24, 3, 0), FULL);
            C.due("2: the refused ones are no LEGS", x.told(1 + way), 2);
            C.due("2: the refused ones are no HOURS", x.told(3 + way), 47);
            C.due("2: 48 HOURS by 1 more", x.leg(way, 1, 4, 0), 48);
            C.due("2: 49 HOURS by 1 more", x.leg(way, 1, 5, 0), FULL);
            C.due("2: HOUR 47 is of the last LEG", x.risk(way, 47, 0, WATCH, 0), 80);
            C.due("2: there is no HOUR 48", x.risk(way, 48, 0, WATCH, 0), OUTSIDE);
            C.due("2: the other WAY has room", x.leg(1 - way, 24, 1, 0), 24);
        }
        C.due("2: 24 and 24 HOURS", of(leg(0, 24, 1, 0)).leg(0, 24, 1, 0), 48);
        C.due("2: 25 and 24 HOURS", of(leg(0, 24, 1, 0), leg(0, 1, 1, 0)).leg(0, 24, 1, 0), FULL);
        NapVoyage y = new NapVoyage();
        for (int n = 1; n <= 7; n++) {
            y.leg(0, 6, 1, 0);
        }
        C.due("2: 49 HOURS by the eighth LEG", y.leg(0, 7, 1, 0), FULL);
        C.due("2: 48 HOURS by the eighth LEG", y.leg(0, 6, 1, 0), 48);
    }

    /** Terms: "HOURS (1 to 24)". */
    private static void hoursOfALeg() {
        NapVoyage x = new NapVoyage();
        C.due("2: 0 HOURS", x.leg(0, 0, 1, 0), OUTSIDE);
        C.due("2: 25 HOURS", x.leg(0, 25, 1, 0), OUTSIDE);
        C.due("2: the least HOURS", x.leg(0, LEAST, 1, 0), OUTSIDE);
        C.due("2: the greatest HOURS", x.leg(0, GREATEST, 1, 0), OUTSIDE);
        C.due("2: none of these is there", x.told(1), 0);
        C.due("2: 1 HOUR", x.leg(0, 1, 1, 0), 1);
        C.due("2: 24 HOURS", x.leg(0, 24, 1, 0), 25);
        C.due("4: 1 HOUR", x.about(0, 0, 0), 1);
        C.due("4: 24 HOURS", x.about(0, 1, 0), 24);
    }

    /** Terms: "SHIPS (thousandths, 0 to 500)". */
    private static void ships() {
        NapVoyage x = new NapVoyage();
        C.due("2: SHIPS -1", x.leg(0, 1, -1, 0), OUTSIDE);
        C.due("2: SHIPS 501", x.leg(0, 1, 501, 0), OUTSIDE);
        C.due("2: the least SHIPS", x.leg(0, 1, LEAST, 0), OUTSIDE);
        C.due("2: the greatest SHIPS", x.leg(0, 1, GREATEST, 0), OUTSIDE);
        C.due("2: none of these is there", x.told(1), 0);
        C.due("2: SHIPS 0", x.leg(0, 1, 0, 0), 1);
        C.due("2: SHIPS 500", x.leg(0, 1, 500, 0), 2);
        C.due("4: SHIPS 0", x.about(0, 0, 1), 0);
        C.due("4: SHIPS 500", x.about(0, 1, 1), 500);
    }

    /** Terms: "a SQUALL or not (1, 0)". */
    private static void squall() {
        NapVoyage x = new NapVoyage();
        C.due("2: SQUALL -1", x.leg(0, 1, 1, -1), OUTSIDE);
        C.due("2: SQUALL 2", x.leg(0, 1, 1, 2), OUTSIDE);
        C.due("2: the least SQUALL", x.leg(0, 1, 1, LEAST), OUTSIDE);
        C.due("2: the greatest SQUALL", x.leg(0, 1, 1, GREATEST), OUTSIDE);
        C.due("2: none of these is there", x.told(1), 0);
        C.due("2: no SQUALL", x.leg(0, 1, 1, 0), 1);
        C.due("2: a SQUALL", x.leg(0, 1, 1, 1), 2);
        C.due("4: no SQUALL", x.about(0, 0, 2), 0);
        C.due("4: a SQUALL", x.about(0, 1, 2), 1);
    }

    /** Promise 3: "The last LEG of a WAY goes: LEGS that are left .. NO: there is none". */
    private static void cutToNone() {
        for (int way = 0; way <= 1; way++) {
            NapVoyage x = of(leg(1 - way, 5, 9, 0));
            for (int n = 0; n < 8; n++) {
                x.leg(way, 6, n, 0);
            }
            for (int left = 7; left >= 0; left--) {
                C.due("3: cut to " + left, x.cut(way), left);
                C.due("3: HOURS that are left", x.told(3 + way), 6 * left);
                C.due("3: the first HOUR that is gone", x.risk(way, 6 * left, 0, WATCH, 0), OUTSIDE);
            }
            C.due("3: cut of none", x.cut(way), NO);
            C.due("3: and again", x.cut(way), NO);
            C.due("3: the other WAY stands", x.told(4 - way), 5);
            C.due("3: the WAY begins anew", x.leg(way, 24, 500, 1), 24);
            C.due("3: with the LEG that is new", x.about(way, 0, 1), 500);
        }
    }

    /** Promise 4: "0 HOURS, 1 SHIPS, 2 SQUALL, 3 its first HOUR. UNKNOWN; OUTSIDE". */
    private static void aboutALeg() {
        NapVoyage x = new NapVoyage();
        for (int n = 0; n < 8; n++) {
            x.leg(1, n + 1, 100 + n, n % 2);
        }
        int[] first = {0, 1, 3, 6, 10, 15, 21, 28};
        for (int n = 0; n < 8; n++) {
            C.due("4: HOURS of LEG " + n, x.about(1, n, 0), n + 1);
            C.due("4: SHIPS of LEG " + n, x.about(1, n, 1), 100 + n);
            C.due("4: SQUALL of LEG " + n, x.about(1, n, 2), n % 2);
            C.due("4: first HOUR of LEG " + n, x.about(1, n, 3), first[n]);
        }
        for (int beyond : new int[] {-1, 8, LEAST, GREATEST}) {
            C.due("4: LEG " + beyond, x.about(1, beyond, 0), UNKNOWN);
        }
        for (int beyond : new int[] {-1, 4, LEAST, GREATEST}) {
            C.due("4: what " + beyond, x.about(1, 0, beyond), OUTSIDE);
        }
        C.due("4: LEG 0 of a WAY without LEGS", x.about(0, 0, 0), UNKNOWN);
        x.cut(1);
        C.due("4: LEG 7 once it went", x.about(1, 7, 0), UNKNOWN);
        C.due("4: LEG 6 stands", x.about(1, 6, 3), 21);
    }

    /** Terms: "HOURS of a WAY are numbered from 0 on, LEG by LEG". */
    private static void hoursFrom0On() {
        NapVoyage x = of(leg(0, 1, 10, 0), leg(0, 2, 20, 0), leg(0, 1, 30, 0));
        int[] due = {OUTSIDE, 200, 400, 400, 600, OUTSIDE};
        for (int hour = -1; hour <= 4; hour++) {
            C.due("7: HOUR " + hour, x.risk(0, hour, 0, WATCH, 0), due[hour + 1]);
        }
        for (int hour : new int[] {-1, 4, LEAST, GREATEST}) {
            C.due("6: HOUR " + hour, x.owed(0, hour, 0, WATCH), OUTSIDE);
            C.due("6: HOUR " + hour + ", NAP 3", x.owed(0, hour, 0, NAP_3), OUTSIDE);
            C.due("7: HOUR " + hour, x.risk(0, hour, 0, NAP_3, 1), OUTSIDE);
        }
        NapVoyage y = twoDays();
        C.due("6: HOUR 0 of 48", y.owed(0, 0, 0, WATCH), 1);
        C.due("6: HOUR 47 of 48", y.owed(0, 47, 0, WATCH), 1);
        C.due("6: HOUR 48 of 48", y.owed(0, 48, 0, WATCH), OUTSIDE);
    }

    /** Terms: "HOUR h is NIGHT, if h left over by 24 is 12 or more". */
    private static void night() {
        NapVoyage x = twoDays();
        int[][] parts = {{0, 11, 8}, {12, 23, 7}, {24, 35, 8}, {36, 47, 7}};
        for (int[] part : parts) {
            for (int hour = part[0]; hour <= part[1]; hour++) {
                C.due("6: NAP 1 in HOUR " + hour, x.owed(0, hour, 9, NAP_1), part[2]);
            }
        }
        // HOURS are numbered over the whole WAY: a LEG begins no day of its own.
        NapVoyage y = of(leg(1, 11, 0, 0), leg(1, 1, 0, 0), leg(1, 1, 0, 0));
        C.due("6: HOUR 11, the first of its LEG", y.owed(1, 11, 9, NAP_1), 8);
        C.due("6: HOUR 12, the first of its LEG", y.owed(1, 12, 9, NAP_1), 7);
    }

    /** Promise 5: "Of NAPS 1 to 3: GIVE (what = 0; 0 to 9), DEEP (1; 0 to 1000): which it was. OUTSIDE". */
    private static void napsGiveAndDeep() {
        for (int what = 0; what <= 1; what++) {
            int most = what == 0 ? 9 : 1000;
            for (int nap = 1; nap <= 3; nap++) {
                NapVoyage x = new NapVoyage();
                int told = 4 + 3 * what + nap;
                int was = x.told(told);
                for (int beyond : new int[] {-1, most + 1, LEAST, GREATEST}) {
                    C.due("5: NAP " + nap + ", what " + what + ", " + beyond, x.nap(nap, what, beyond), OUTSIDE);
                    C.due("5: it stands", x.told(told), was);
                }
                C.due("5: the most", x.nap(nap, what, most), was);
                C.due("5: it is so", x.told(told), most);
                C.due("5: the least", x.nap(nap, what, 0), most);
                C.due("5: which it was", x.nap(nap, what, 0), 0);
                for (int other = 5; other <= 10; other++) {
                    C.due("5: no other is changed", x.told(other), other == told ? 0 : new NapVoyage().told(other));
                }
            }
        }
        NapVoyage x = new NapVoyage();
        for (int beyond : new int[] {0, 4, -1, LEAST, GREATEST}) {
            C.due("5: GIVE of NAP " + beyond, x.nap(beyond, 0, 5), OUTSIDE);
            C.due("5: DEEP of NAP " + beyond, x.nap(beyond, 1, 5), OUTSIDE);
        }
        for (int beyond : new int[] {-1, 2, LEAST, GREATEST}) {
            C.due("5: what " + beyond, x.nap(1, beyond, 5), OUTSIDE);
        }
        C.due("5: 10 is too much to GIVE, not to be DEEP", x.nap(1, 1, 10), 200);
    }

    /** Terms: "OWED: 0 to 20"; promise 6: "OUTSIDE: HOUR, OWED, THING"; "a THING (0 to 4)". */
    private static void owed0To20() {
        NapVoyage x = twoDays();
        C.due("6: OWED 0", x.owed(0, 0, 0, LIE), 0);
        C.due("6: OWED 20", x.owed(0, 0, 20, LIE), 19);
        C.due("7: OWED 0", x.risk(0, 0, 0, WATCH, 0), 2000);
        C.due("7: OWED 20", x.risk(0, 0, 20, WATCH, 0), 12000);
        for (int beyond : new int[] {-1, 21, LEAST, GREATEST}) {
            C.due("6: OWED " + beyond, x.owed(0, 0, beyond, WATCH), OUTSIDE);
            C.due("7: OWED " + beyond, x.risk(0, 0, beyond, WATCH, 0), OUTSIDE);
        }
        C.due("6: THING 0", x.owed(0, 0, 9, 0), 10);
        C.due("6: THING 4", x.owed(0, 0, 9, 4), 8);
        for (int beyond : new int[] {-1, 5, 10, LEAST, GREATEST}) {
            C.due("6: THING " + beyond, x.owed(0, 0, 9, beyond), OUTSIDE);
            C.due("7: THING " + beyond, x.risk(0, 0, 9, beyond, 0), OUTSIDE);
        }
        C.due("7: bell 0", x.risk(0, 0, 0, NAP_1, 0), 20000);
        C.due("7: bell 1", x.risk(0, 0, 0, NAP_1, 1), 8000);
        for (int beyond : new int[] {-1, 2, 10, LEAST, GREATEST}) {
            C.due("7: bell " + beyond, x.risk(0, 0, 9, NAP_1, beyond), OUTSIDE);
        }
    }

    /** Terms: "WATCH: OWED becomes 1 more (20 at most". */
    private static void watchTwentyAtMost() {
        NapVoyage x = twoDays();
        C.due("6: WATCH, owing 0", x.owed(0, 0, 0, WATCH), 1);
        C.due("6: WATCH, owing 18", x.owed(0, 0, 18, WATCH), 19);
        C.due("6: WATCH, owing 19", x.owed(0, 0, 19, WATCH), 20);
        C.due("6: WATCH, owing 20", x.owed(0, 0, 20, WATCH), 20);
        C.due("6: WATCH by NIGHT, owing 19", x.owed(0, 12, 19, WATCH), 20);
    }

    /** Terms: "in a SQUALL 2 more)", 20 at most likewise. */
    private static void watchInASquall() {
        NapVoyage x = of(leg(0, 1, 9, 0), leg(0, 1, 9, 1), leg(0, 1, 9, 0));
        int[] ahead = {0, 17, 18, 19, 20};
        int[] behind = {2, 19, 20, 20, 20};
        for (int i = 0; i < ahead.length; i++) {
            C.due("6: WATCH in a SQUALL, owing " + ahead[i], x.owed(0, 1, ahead[i], WATCH), behind[i]);
        }
        C.due("6: WATCH just ahead of it", x.owed(0, 0, 5, WATCH), 6);
        C.due("6: WATCH just behind it", x.owed(0, 2, 5, WATCH), 6);
    }

    /** Terms: "OWED becomes less by what they GIVE, .. 0 at least", by day. */
    private static void napsNoughtAtLeast() {
        for (int give = 0; give <= 9; give++) {
            for (int nap = 1; nap <= 3; nap++) {
                NapVoyage x = twoDays();
                x.nap(nap, 0, give);
                C.due("6: owing just what NAP " + nap + " gives, " + give, x.owed(0, 11, give, nap), 0);
                C.due("6: owing 1 more", x.owed(0, 11, give + 1, nap), 1);
                C.due("6: owing 0", x.owed(0, 11, 0, nap), 0);
                C.due("6: owing 20", x.owed(0, 11, 20, nap), 20 - give);
                if (give > 0) {
                    C.due("6: owing 1 less", x.owed(0, 11, give - 1, nap), 0);
                }
            }
        }
    }

    /** Terms: "by NIGHT 1 more, 0 at least". */
    private static void napsByNight() {
        for (int give = 0; give <= 9; give++) {
            for (int nap = 1; nap <= 3; nap++) {
                NapVoyage x = twoDays();
                x.nap(nap, 0, give);
                C.due("6: by NIGHT, owing what NAP " + nap + " gives, " + give, x.owed(0, 12, give, nap), 0);
                C.due("6: by NIGHT, owing 1 more", x.owed(0, 12, give + 1, nap), 0);
                C.due("6: by NIGHT, owing 2 more", x.owed(0, 12, give + 2, nap), 1);
                C.due("6: by NIGHT, owing 0", x.owed(0, 12, 0, nap), 0);
                C.due("6: by NIGHT, owing 20", x.owed(0, 12, 20, nap), 19 - give);
            }
        }
    }

    /** Terms: "NAP 3 takes this HOUR and the next one (NIGHT as of the first)". */
    private static void nap3NightOfTheFirst() {
        NapVoyage x = twoDays();
        C.due("6: NAP 3 from day into NIGHT", x.owed(0, 11, 9, NAP_3), 3);
        C.due("6: NAP 3 by NIGHT", x.owed(0, 12, 9, NAP_3), 2);
        C.due("6: NAP 3 from NIGHT into day", x.owed(0, 23, 9, NAP_3), 2);
        C.due("6: NAP 3 by the second day", x.owed(0, 24, 9, NAP_3), 3);
        C.due("6: NAP 3 into the second NIGHT", x.owed(0, 35, 9, NAP_3), 3);
        C.due("6: NAP 3 in the last two HOURS", x.owed(0, 46, 9, NAP_3), 2);
    }

    /** Terms: "NAP 3, if its second HOUR is one of the WAY, too, without SQUALL". */
    private static void nap3SecondHour() {
        NapVoyage x = of(leg(0, 2, 9, 0), leg(0, 1, 9, 0), leg(0, 1, 9, 1), leg(0, 2, 9, 0), leg(1, 1, 9, 0));
        C.due("6: its second HOUR is of the same LEG", x.owed(0, 0, 9, NAP_3), 3);
        C.due("6: its second HOUR is of the next LEG", x.owed(0, 1, 9, NAP_3), 3);
        C.due("6: its second HOUR is of a SQUALL", x.owed(0, 2, 9, NAP_3), NO);
        C.due("6: its first HOUR is of a SQUALL", x.owed(0, 3, 9, NAP_3), NO);
        C.due("6: its second HOUR is the last one", x.owed(0, 4, 9, NAP_3), 3);
        C.due("6: its second HOUR is none of the WAY", x.owed(0, 5, 9, NAP_3), NO);
        C.due("6: a WAY of 1 HOUR", x.owed(1, 0, 9, NAP_3), NO);
        for (int bell = 0; bell <= 1; bell++) {
            C.holds("7: its second HOUR is of the next LEG", x.risk(0, 1, 9, NAP_3, bell) > 0);
            C.due("7: its second HOUR is of a SQUALL", x.risk(0, 2, 9, NAP_3, bell), NO);
            C.due("7: its second HOUR is none of the WAY", x.risk(0, 5, 9, NAP_3, bell), NO);
            C.due("7: a WAY of 1 HOUR", x.risk(1, 0, 9, NAP_3, bell), NO);
        }
        NapVoyage y = twoDays();
        C.due("6: HOUR 46 of 48", y.owed(0, 46, 0, NAP_3), 0);
        C.due("6: HOUR 47 of 48", y.owed(0, 47, 0, NAP_3), NO);
        // What was beyond a LEG that went is no HOUR of the WAY.
        y.cut(0);
        C.due("6: HOUR 23, the next one being gone", y.owed(0, 23, 9, NAP_3), NO);
        C.due("6: HOUR 22", y.owed(0, 22, 9, NAP_3), 2);
        NapVoyage z = of(leg(0, 1, 9, 0), leg(0, 1, 9, 1));
        z.cut(0);
        z.leg(0, 1, 9, 0);
        C.due("6: no SQUALL is left of the LEG that went", z.owed(0, 0, 9, NAP_3), 3);
    }

    /** Terms: "LIE: OWED becomes 1 less (0 at least)". */
    private static void lieNoughtAtLeast() {
        NapVoyage x = twoDays();
        for (int hour : new int[] {0, 12, 47}) {
            C.due("6: LIE in HOUR " + hour + ", owing 0", x.owed(0, hour, 0, LIE), 0);
            C.due("6: LIE in HOUR " + hour + ", owing 1", x.owed(0, hour, 1, LIE), 0);
            C.due("6: LIE in HOUR " + hour + ", owing 2", x.owed(0, hour, 2, LIE), 1);
            C.due("6: LIE in HOUR " + hour + ", owing 20", x.owed(0, hour, 20, LIE), 19);
        }
    }

    /** Terms: "no way is made: the same HOUR is to be done again". */
    private static void lieTheSameHourAgain() {
        NapVoyage x = of(leg(0, 1, 9, 0));
        Checks.write(x, "ll");
        C.due("11: HOUR 0 is next", x.judge(0, 9, 0, 5), 0);
        C.due("11: TIMES", x.judge(0, 9, 0, 1), 2);
        x.say('w');
        C.due("11: HOUR 0 can be done yet", x.judge(0, 9, 0, 0), NONE);
        C.due("11: the end is next", x.judge(0, 9, 0, 5), 1);
        x.say('l');
        C.due("11: at the end no LIE can be", x.judge(0, 9, 0, 0), 3);
    }

    /** Terms: "In a SQUALL WATCH alone can be"; promises 6, 7: "NO: it can not be there". */
    private static void inASquallWatchAlone() {
        NapVoyage x = of(leg(0, 1, 9, 0), leg(0, 2, 9, 1), leg(0, 1, 9, 0));
        for (int hour = 1; hour <= 2; hour++) {
            C.due("6: WATCH in HOUR " + hour, x.owed(0, hour, 9, WATCH), 11);
            C.due("7: WATCH in HOUR " + hour, x.risk(0, hour, 9, WATCH, 0), 180);
            for (int thing = 1; thing <= 4; thing++) {
                C.due("6: THING " + thing + " in HOUR " + hour, x.owed(0, hour, 9, thing), NO);
                C.due("7: THING " + thing + " in HOUR " + hour, x.risk(0, hour, 9, thing, 0), NO);
                C.due("7: THING " + thing + " in HOUR " + hour + " with the BELL", x.risk(0, hour, 9, thing, 1), NO);
            }
        }
        for (int thing : new int[] {NAP_1, NAP_2, LIE}) {
            C.holds("6: THING " + thing + " just ahead of it", x.owed(0, 0, 9, thing) < 9 && x.owed(0, 0, 9, thing) > 0);
            C.holds("6: THING " + thing + " just behind it", x.owed(0, 3, 9, thing) < 9 && x.owed(0, 3, 9, thing) > 0);
        }
    }

    /** Terms: "(OVER: what that is above 10, 0 at least): WATCH 20 and 10 times OVER". */
    private static void overNoughtAtLeast() {
        NapVoyage x = twoDays();
        int[] owed = {0, 9, 10, 11, 12, 19, 20};
        int[] watch = {20, 20, 20, 30, 40, 110, 120};
        int[] nap = {200, 200, 200, 220, 240, 380, 400};
        for (int i = 0; i < owed.length; i++) {
            C.due("7: WATCH, owing " + owed[i], x.risk(0, 0, owed[i], WATCH, 0), 100 * watch[i]);
            C.due("7: NAP 1, owing " + owed[i], x.risk(0, 0, owed[i], NAP_1, 0), 100 * nap[i]);
        }
    }

    /** Terms: "NAPS what they are DEEP and 20 times OVER, 1000 at most". */
    private static void blindOfNapsThousandAtMost() {
        int[][] due = {{799, 20, 999}, {800, 20, 1000}, {801, 20, 1000}, {800, 19, 980}, {979, 11, 999}, {980, 11, 1000},
            {981, 11, 1000}, {1000, 10, 1000}, {1000, 0, 1000}, {1000, 11, 1000}, {1000, 20, 1000}, {999, 10, 999},
            {0, 10, 0}, {0, 11, 20}, {0, 20, 200}};
        for (int[] row : due) {
            for (int nap = 1; nap <= 3; nap++) {
                NapVoyage x = twoDays();
                x.nap(nap, 1, row[0]);
                C.due("7: NAP " + nap + ", DEEP " + row[0] + ", owing " + row[1], x.risk(0, 0, row[1], nap, 0), 100 * row[2]);
            }
        }
    }

    /** Terms: "LIE 300", whatever is OWED. */
    private static void blindOfLie() {
        NapVoyage x = twoDays();
        for (int owed : new int[] {0, 10, 11, 20}) {
            C.due("7: LIE, owing " + owed, x.risk(0, 0, owed, LIE, 0), 30000);
        }
    }

    /** Terms: "HEARD being 600 less 40 times OWED, 0 at least". */
    private static void heardNoughtAtLeast() {
        NapVoyage x = twoDays();
        x.nap(1, 1, 1000);
        int[] owed = {0, 1, 13, 14, 15, 16, 20};
        int[] unheard = {400, 440, 920, 960, 1000, 1000, 1000};
        for (int i = 0; i < owed.length; i++) {
            C.due("7: BELL of NAP 1, owing " + owed[i], x.risk(0, 0, owed[i], NAP_1, 1), 100 * unheard[i]);
            C.due("7: BELL of LIE, owing " + owed[i], x.risk(0, 0, owed[i], LIE, 1), 100 * 300 * unheard[i] / 1000);
        }
    }

    /** Terms: "With the BELL (not of WATCH)"; promise 7: "NO, likewise (of WATCH with the BELL, too)". */
    private static void bellNotOfWatch() {
        NapVoyage x = of(leg(0, 1, 9, 0), leg(0, 1, 0, 1));
        for (int hour = 0; hour <= 1; hour++) {
            C.due("7: WATCH with the BELL in HOUR " + hour, x.risk(0, hour, 0, WATCH, 1), NO);
            C.due("7: WATCH with the BELL, owing 20", x.risk(0, hour, 20, WATCH, 1), NO);
        }
        C.due("7: WATCH without it", x.risk(0, 0, 0, WATCH, 0), 180);
        C.due("7: WATCH without it and without SHIPS", x.risk(0, 1, 0, WATCH, 0), 0);
    }

    /** Terms: "that times (1000 less HEARD) by 1000"; "all quotients are cut". */
    private static void blindIsCut() {
        // Owing 0, 400 of 1000 are not heard: 1 and 2 make less than 1, 3 makes 1.2, 4 makes 1.6, 5 makes 2.
        int[] due = {0, 0, 0, 1, 1, 2};
        for (int deep = 0; deep <= 5; deep++) {
            NapVoyage x = of(leg(0, 1, 500, 0));
            x.nap(2, 1, deep);
            C.due("7: DEEP " + deep + " with the BELL", x.risk(0, 0, 0, NAP_2, 1), 500 * due[deep]);
        }
        NapVoyage y = of(leg(0, 1, 500, 0));
        y.nap(2, 1, 999);
        // 999 times 440 by 1000 is 439.56; owing 11, 1000 times 840 by 1000.
        C.due("7: DEEP 999 with the BELL, owing 1", y.risk(0, 0, 1, NAP_2, 1), 500 * 439);
        C.due("7: DEEP 999 with the BELL, owing 11", y.risk(0, 0, 11, NAP_2, 1), 500 * 840);
    }

    /** Terms: "RISK of an HOUR: SHIPS times BLIND, in millionths": its least and its greatest. */
    private static void riskLeastAndMost() {
        NapVoyage x = of(leg(0, 2, 0, 0), leg(0, 2, 500, 0), leg(0, 2, 1, 0));
        x.nap(3, 1, 1000);
        x.nap(1, 1, 0);
        x.nap(2, 1, 1);
        C.due("7: no SHIPS", x.risk(0, 0, 20, NAP_3, 0), 0);
        C.due("7: most SHIPS, all BLIND", x.risk(0, 2, 20, NAP_3, 0), 500000);
        C.due("7: most SHIPS, all BLIND, with the BELL not heard", x.risk(0, 2, 20, NAP_3, 1), 500000);
        C.due("7: most SHIPS, nothing BLIND", x.risk(0, 2, 0, NAP_1, 0), 0);
        C.due("7: one and one", x.risk(0, 4, 0, NAP_2, 0), 1);
    }

    /** Terms: "SHIPS (of that HOUR)": promise 7 tells the HOUR in which the THING is begun. */
    private static void riskOfThatHour() {
        NapVoyage x = of(leg(0, 1, 10, 0), leg(0, 1, 300, 0));
        C.due("7: NAP 3 begun in the last HOUR of a LEG", x.risk(0, 0, 0, NAP_3, 0), 8000);
        C.due("7: NAP 2 begun in the first HOUR of the next", x.risk(0, 1, 0, NAP_2, 0), 150000);
    }
}
