import java.util.ArrayList;
import java.util.Arrays;
import java.util.List;

/**
 * The Terms: "Calls that are refused answer, the first of these that fits: UNKNOWN, OUTSIDE, STATE, NO,
 * FULL. They change nothing." Every number of every call is tried at both ends of what is told for it,
 * just beyond and far beyond, alone and together with the others, on an object that is new, on one in
 * use and on one that is full.
 */
public final class RefusalsTest {
    private static final int UNKNOWN = -1, OUTSIDE = -2, STATE = -3, FULL = -4, NO = -5, NONE = -6;
    private static final int LEAST = Integer.MIN_VALUE, GREATEST = Integer.MAX_VALUE;
    private static final Checks C = new Checks();

    private interface Call {
        int on(NapVoyage x, int[] n);
    }

    private interface Setup {
        NapVoyage make();
    }

    /** What is told for a number, and what is answered beyond. */
    private record Range(int least, int most, int refusal) {
        boolean has(int v) {
            return v >= least && v <= most;
        }

        int[] tries() {
            return new int[] {LEAST, least - 1, least, most, most + 1, GREATEST};
        }
    }

    private record Kind(String name, Call call, Range... ranges) { }

    /** An object as it is before a call; LEGS and HOURS are those of a WAY. */
    private record Place(String name, Setup setup, int way, int legs, int hours) { }

    private static final Range WAY = new Range(0, 1, UNKNOWN);
    private static final Range OWED = new Range(0, 20, OUTSIDE);
    private static final Range BATTERY = new Range(0, 24, OUTSIDE);
    private static final Range LIES = new Range(0, 4, OUTSIDE);
    private static final Range THING = new Range(0, 4, OUTSIDE);
    private static final Range BIT = new Range(0, 1, OUTSIDE);
    private static final Range IMAGE = new Range(0, 1, OUTSIDE);

    public static void main(String[] args) {
        Place[] places = {new Place("new", NapVoyage::new, 0, 0, 0), new Place("new", NapVoyage::new, 1, 0, 0),
            new Place("in use", RefusalsTest::inUse, 0, 3, 18), new Place("in use", RefusalsTest::inUse, 1, 2, 6),
            new Place("full", RefusalsTest::full, 0, 8, 48), new Place("full", RefusalsTest::full, 1, 2, 48)};
        for (Place place : places) {
            for (Kind kind : kinds(place)) {
                everyNumber(place, kind);
            }
        }
        worthTogether();
        unknownIsFirst();
        outsideIsAheadOfState();
        outsideIsAheadOfNo();
        outsideIsAheadOfFull();
        stateChangesNothing();
        noChangesNothing();
        fullChangesNothing();
        C.end("RefusalsTest");
    }

    private static NapVoyage inUse() {
        NapVoyage x = new NapVoyage();
        x.leg(1, 4, 30, 0);
        x.nap(2, 1, 480);
        x.image(1);
        x.leg(1, 2, 0, 1);
        x.leg(0, 5, 100, 0);
        x.leg(0, 3, 20, 1);
        x.leg(0, 10, 5, 0);
        x.nap(1, 1, 60);
        x.nap(3, 0, 7);
        Checks.write(x, "wl!13.");
        return x;
    }

    private static NapVoyage full() {
        NapVoyage x = new NapVoyage();
        for (int i = 0; i < 8; i++) {
            x.leg(0, 6, 60 * i, i % 3 == 2 ? 1 : 0);
        }
        x.image(0);
        x.leg(1, 24, 500, 0);
        x.leg(1, 24, 499, 1);
        x.nap(1, 1, 1000);
        x.image(1);
        x.nap(2, 0, 9);
        Checks.write(x, "w1".repeat(29) + "w!");
        return x;
    }

    private static List<Kind> kinds(Place place) {
        List<Kind> all = new ArrayList<>();
        kindsOfWays(all, new Range(0, place.legs - 1, UNKNOWN), new Range(0, place.hours - 1, OUTSIDE));
        kindsOfBest(all, new Range(0, place.hours, OUTSIDE));
        kindsOfTheRest(all);
        return all;
    }

    private static void kindsOfWays(List<Kind> all, Range leg, Range hour) {
        all.add(new Kind("2: leg", (x, n) -> x.leg(n[0], n[1], n[2], n[3]), WAY, new Range(1, 24, OUTSIDE),
            new Range(0, 500, OUTSIDE), BIT));
        all.add(new Kind("3: cut", (x, n) -> x.cut(n[0]), WAY));
        all.add(new Kind("4: about", (x, n) -> x.about(n[0], n[1], n[2]), WAY, leg, new Range(0, 3, OUTSIDE)));
        Range nap = new Range(1, 3, OUTSIDE);
        all.add(new Kind("5: nap, GIVE", (x, n) -> x.nap(n[0], 0, n[1]), nap, new Range(0, 9, OUTSIDE)));
        all.add(new Kind("5: nap, DEEP", (x, n) -> x.nap(n[0], 1, n[1]), nap, new Range(0, 1000, OUTSIDE)));
        all.add(new Kind("5: nap, what", (x, n) -> x.nap(n[0], n[1], 5), nap, BIT));
        all.add(new Kind("6: owed", (x, n) -> x.owed(n[0], n[1], n[2], n[3]), WAY, hour, OWED, THING));
        all.add(new Kind("7: risk", (x, n) -> x.risk(n[0], n[1], n[2], n[3], n[4]), WAY, hour, OWED, THING, BIT));
        all.add(new Kind("8: say", (x, n) -> x.say(n[0]), new Range(33, 126, OUTSIDE)));
        all.add(new Kind("11: judge", (x, n) -> x.judge(n[0], n[1], n[2], n[3]), WAY, OWED, BATTERY,
            new Range(0, 6, OUTSIDE)));
    }

    private static void kindsOfBest(List<Kind> all, Range hour) {
        all.add(new Kind("12: best", (x, n) -> x.best(n[0], n[1], n[2], n[3], n[4]), WAY, hour, OWED, BATTERY, LIES));
        all.add(new Kind("13: does", (x, n) -> x.does(n[0], n[1], n[2], n[3], n[4]), WAY, hour, OWED, BATTERY, LIES));
        all.add(new Kind("14: logged", (x, n) -> x.logged(n[0], n[1], n[2], -1), WAY, OWED, BATTERY));
        all.add(new Kind("15: thumb", (x, n) -> x.thumb(n[0], n[1], n[2], n[3]), WAY, new Range(0, 3, OUTSIDE), OWED,
            new Range(0, 2, OUTSIDE)));
        all.add(new Kind("16: worth of BATTERY 0", (x, n) -> x.worth(n[0], n[1], 0, n[2]), WAY, OWED, BATTERY));
        all.add(new Kind("16: worth of 10", (x, n) -> x.worth(n[0], n[1], 10, n[2]), WAY, OWED, new Range(0, 14, OUTSIDE)));
        all.add(new Kind("16: worth of 24", (x, n) -> x.worth(n[0], n[1], 24, n[2]), WAY, OWED, new Range(0, 0, OUTSIDE)));
        all.add(new Kind("16: worth of none more", (x, n) -> x.worth(n[0], n[1], n[2], 0), WAY, OWED, BATTERY));
        all.add(new Kind("17: round", (x, n) -> x.round(n[0], n[1]), OWED, BATTERY));
        all.add(new Kind("18: soonest", (x, n) -> x.soonest(n[0], n[1], n[2], n[3]), WAY, OWED, BATTERY,
            new Range(0, 1000000, OUTSIDE)));
    }

    private static void kindsOfTheRest(List<Kind> all) {
        Range cost = new Range(0, 10000, OUTSIDE);
        all.add(new Kind("19: two", (x, n) -> x.two(n[0], n[1], n[2]), WAY, OWED, new Range(1, 6, OUTSIDE)));
        all.add(new Kind("20: share", (x, n) -> x.share(n[0], n[1]), WAY, OWED));
        all.add(new Kind("21: up", (x, n) -> x.up(n[0], n[1], n[2]), new Range(0, 1000, OUTSIDE), cost, OWED));
        all.add(new Kind("22: trust", (x, n) -> x.trust(n[0], n[1]), cost, OWED));
        all.add(new Kind("23: draw", (x, n) -> x.draw(n[0], n[1], n[2], n[3]), WAY, OWED, BATTERY,
            new Range(0, 9999, OUTSIDE)));
        all.add(new Kind("24: image", (x, n) -> x.image(n[0]), IMAGE));
        all.add(new Kind("25: restore", (x, n) -> x.restore(n[0]), IMAGE));
        all.add(new Kind("26: told", (x, n) -> x.told(n[0]), new Range(0, 10, OUTSIDE)));
    }

    /** All rows of numbers that can be tried: those that are allowed are, the others answer the first refusal. */
    private static void everyNumber(Place place, Kind kind) {
        List<int[]> refused = new ArrayList<>();
        for (int[] n : rows(kind.ranges)) {
            // LEGS and HOURS are told for one WAY at a time.
            boolean otherWay = kind.ranges[0] == WAY && n[0] == 1 - place.way;
            if (!otherWay && dueOf(kind, n) == 0) {
                allowed(place, kind, n);
            } else if (!otherWay) {
                refused.add(n);
            }
        }
        int[] before = readout(place.setup.make());
        for (int from = 0; from < refused.size(); from += 100) {
            NapVoyage x = place.setup.make();
            for (int[] n : refused.subList(from, Math.min(refused.size(), from + 100))) {
                C.due(kind.name + " " + List.of(boxed(n)) + " on an object that is " + place.name, kind.call.on(x, n), dueOf(kind, n));
            }
            unchanged(kind.name + " on an object that is " + place.name, x, before);
        }
    }

    private static List<int[]> rows(Range[] ranges) {
        List<int[]> rows = new ArrayList<>();
        rows.add(new int[0]);
        for (Range range : ranges) {
            List<int[]> longer = new ArrayList<>();
            for (int[] row : rows) {
                for (int v : range.tries()) {
                    int[] more = Arrays.copyOf(row, row.length + 1);
                    more[row.length] = v;
                    longer.add(more);
                }
            }
            rows = longer;
        }
        return rows;
    }

    /** 0: the numbers are as told. */
    private static int dueOf(Kind kind, int[] n) {
        int due = 0;
        for (int i = 0; i < n.length; i++) {
            if (!kind.ranges[i].has(n[i]) && due != UNKNOWN) {
                due = kind.ranges[i].refusal;
            }
        }
        return due;
    }

    private static void allowed(Place place, Kind kind, int[] n) {
        int got = kind.call.on(place.setup.make(), n);
        C.holds(kind.name + " " + List.of(boxed(n)) + " is allowed on an object that is " + place.name + ", answered " + got,
            got != UNKNOWN && got != OUTSIDE);
    }

    private static Integer[] boxed(int[] n) {
        return Arrays.stream(n).boxed().toArray(Integer[]::new);
    }

    /** All that calls can tell of an object; it is spent behind this. */
    private static int[] readout(NapVoyage x) {
        List<Integer> all = new ArrayList<>();
        charted(x, all);
        all.add(x.told(0));
        all.add(x.fault());
        for (int i = 0; i < 14; i++) {
            all.add(x.judge(i / 7, 12, 3, i % 7));
        }
        for (int way = 0; way <= 1; way++) {
            all.add(x.draw(way, 20, 24, 7));
            all.add(x.best(way, 0, 12, 1, 1));
            all.add(x.does(way, 0, 12, 1, 1));
            all.add(x.two(way, 12, 2));
            for (int hour = 0; hour < 48; hour++) {
                all.add(x.risk(way, hour, 0, 0, 0));
            }
        }
        // What no call but judge tells of the PAD: mend a FAULT at its end, if there is room.
        all.add(x.say('1'));
        all.add(x.judge(0, 9, 9, 3));
        all.add(x.wipe());
        for (int n = 0; n <= 1; n++) {
            all.add(x.restore(n));
            charted(x, all);
        }
        return all.stream().mapToInt(Integer::intValue).toArray();
    }

    private static void charted(NapVoyage x, List<Integer> all) {
        for (int what = 1; what <= 10; what++) {
            all.add(x.told(what));
        }
        for (int i = 0; i < 48; i++) {
            all.add(x.about(i / 24, i / 3 % 8, i % 3));
        }
    }

    private static void unchanged(String what, NapVoyage x, int[] before) {
        int[] now = readout(x);
        for (int i = 0; i < before.length; i++) {
            C.due(what + " was refused and changes nothing, number " + i, now[i], before[i]);
        }
    }

    /** One refused call on an object that is made anew: its answer, and that nothing changed. */
    private static void refused(String what, Setup setup, Call call, int due) {
        NapVoyage x = setup.make();
        C.due(what, call.on(x, null), due);
        unchanged(what, x, readout(setup.make()));
    }

    /** "BATTERY and more, together 24 at most": sums that an int can not hold, too. */
    private static void worthTogether() {
        int[][] beyond = {{24, 1}, {23, 2}, {12, 13}, {1, 24}, {0, 25}, {25, 0}, {25, -1}, {-1, 1}, {-1, 25}, {GREATEST, GREATEST},
            {GREATEST, 1}, {1, GREATEST}, {24, GREATEST}, {LEAST, LEAST}, {LEAST, GREATEST}, {GREATEST, LEAST}, {24, LEAST}};
        for (int[] n : beyond) {
            refused("16: worth, " + n[0] + " and " + n[1], RefusalsTest::inUse, (x, none) -> x.worth(0, 5, n[0], n[1]), OUTSIDE);
        }
        for (int battery = 0; battery <= 24; battery++) {
            int got = inUse().worth(0, 5, battery, 24 - battery);
            C.holds("16: worth, " + battery + " and what is left to 24, answered " + got, got >= 0);
        }
    }

    /** UNKNOWN is ahead of NO and FULL; ahead of OUTSIDE it was above. */
    private static void unknownIsFirst() {
        refused("3: no such WAY, and no LEG", NapVoyage::new, (x, none) -> x.cut(2), UNKNOWN);
        refused("3: no WAY -1, and no LEG", NapVoyage::new, (x, none) -> x.cut(-1), UNKNOWN);
        refused("2: no such WAY, all being full", RefusalsTest::full, (x, none) -> x.leg(2, 1, 0, 0), UNKNOWN);
        refused("2: no WAY -1, all being full", RefusalsTest::full, (x, none) -> x.leg(-1, 24, 0, 0), UNKNOWN);
        refused("6: no such WAY, THING 3 in HOUR 4", RefusalsTest::inUse, (x, none) -> x.owed(2, 4, 0, 3), UNKNOWN);
        refused("7: no such WAY, WATCH with the BELL", RefusalsTest::inUse, (x, none) -> x.risk(2, 0, 0, 0, 1), UNKNOWN);
        refused("11: no such WAY, and a FAULT", RefusalsTest::full, (x, none) -> x.judge(2, 0, 0, 0), UNKNOWN);
        refused("23: no such WAY, and a FAULT", RefusalsTest::full, (x, none) -> x.draw(2, 0, 0, 0), UNKNOWN);
        refused("4: no such LEG, what 4", RefusalsTest::inUse, (x, none) -> x.about(0, 3, 4), UNKNOWN);
        refused("4: a LEG of the other WAY alone, what -1", RefusalsTest::inUse, (x, none) -> x.about(1, 2, -1), UNKNOWN);
    }

    private static void outsideIsAheadOfState() {
        refused("25: no such IMAGE, none being kept", NapVoyage::new, (x, none) -> x.restore(2), OUTSIDE);
        refused("25: no IMAGE -1, none being kept", NapVoyage::new, (x, none) -> x.restore(-1), OUTSIDE);
    }

    private static void outsideIsAheadOfNo() {
        // HOUR 4 is the last one ahead of a SQUALL, 5 the first one in it.
        refused("6: OWED 21, NAP 3 into a SQUALL", RefusalsTest::inUse, (x, none) -> x.owed(0, 4, 21, 3), OUTSIDE);
        refused("6: OWED -1, NAP 1 in a SQUALL", RefusalsTest::inUse, (x, none) -> x.owed(0, 5, -1, 1), OUTSIDE);
        refused("6: HOUR 18 of 18, NAP 3", RefusalsTest::inUse, (x, none) -> x.owed(0, 18, 0, 3), OUTSIDE);
        refused("6: THING 5 in a SQUALL", RefusalsTest::inUse, (x, none) -> x.owed(0, 5, 0, 5), OUTSIDE);
        refused("7: OWED 21, WATCH with the BELL", RefusalsTest::inUse, (x, none) -> x.risk(0, 0, 21, 0, 1), OUTSIDE);
        refused("7: HOUR 18 of 18, WATCH with the BELL", RefusalsTest::inUse, (x, none) -> x.risk(0, 18, 0, 0, 1), OUTSIDE);
        refused("7: bell 2, WATCH", RefusalsTest::inUse, (x, none) -> x.risk(0, 0, 0, 0, 2), OUTSIDE);
        refused("7: bell 2, LIE in a SQUALL", RefusalsTest::inUse, (x, none) -> x.risk(0, 5, 0, 4, 2), OUTSIDE);
        refused("7: bell -1, NAP 3 into a SQUALL", RefusalsTest::inUse, (x, none) -> x.risk(0, 4, 0, 3, -1), OUTSIDE);
        refused("11: OWED 21, and a FAULT", RefusalsTest::full, (x, none) -> x.judge(0, 21, 0, 0), OUTSIDE);
        refused("11: BATTERY 25, and a FAULT", RefusalsTest::full, (x, none) -> x.judge(0, 0, 25, 0), OUTSIDE);
        refused("11: what 7, and a FAULT", RefusalsTest::full, (x, none) -> x.judge(0, 0, 0, 7), OUTSIDE);
        refused("23: OWED 21, and a FAULT", RefusalsTest::full, (x, none) -> x.draw(0, 21, 0, 0), OUTSIDE);
        refused("23: BATTERY 25, and a FAULT", RefusalsTest::full, (x, none) -> x.draw(0, 0, 25, 0), OUTSIDE);
        refused("23: seed 10000, and a FAULT", RefusalsTest::full, (x, none) -> x.draw(0, 0, 0, 10000), OUTSIDE);
    }

    private static void outsideIsAheadOfFull() {
        refused("2: 25 HOURS, all being full", RefusalsTest::full, (x, none) -> x.leg(0, 25, 0, 0), OUTSIDE);
        refused("2: 0 HOURS, all being full", RefusalsTest::full, (x, none) -> x.leg(0, 0, 0, 0), OUTSIDE);
        refused("2: SHIPS 501, all being full", RefusalsTest::full, (x, none) -> x.leg(0, 1, 501, 0), OUTSIDE);
        refused("2: SQUALL 2, all being full", RefusalsTest::full, (x, none) -> x.leg(0, 1, 0, 2), OUTSIDE);
        refused("8: sign 127, the PAD being full", RefusalsTest::full, (x, none) -> x.say(127), OUTSIDE);
        refused("8: sign 32, the PAD being full", RefusalsTest::full, (x, none) -> x.say(32), OUTSIDE);
    }

    private static void stateChangesNothing() {
        refused("25: IMAGE 0 was not kept", NapVoyage::new, (x, none) -> x.restore(0), STATE);
        refused("25: IMAGE 1 was not kept", NapVoyage::new, (x, none) -> x.restore(1), STATE);
        refused("25: the other IMAGE was kept", RefusalsTest::inUse, (x, none) -> x.restore(0), STATE);
    }

    private static void noChangesNothing() {
        refused("3: no LEG of WAY 0", NapVoyage::new, (x, none) -> x.cut(0), NO);
        refused("3: no LEG of WAY 1", NapVoyage::new, (x, none) -> x.cut(1), NO);
        refused("6: NAP 3 into a SQUALL", RefusalsTest::inUse, (x, none) -> x.owed(0, 4, 0, 3), NO);
        refused("7: WATCH with the BELL", RefusalsTest::inUse, (x, none) -> x.risk(0, 0, 0, 0, 1), NO);
        refused("11: a FAULT", RefusalsTest::full, (x, none) -> x.judge(0, 0, 0, 0), NO);
        refused("23: a FAULT", RefusalsTest::full, (x, none) -> x.draw(0, 0, 0, 0), NO);
        C.due("3: a LEG of the other WAY is none of this", inUseButWay0().cut(0), NO);
        C.due("10: NONE is no refusal", new NapVoyage().fault(), NONE);
    }

    private static NapVoyage inUseButWay0() {
        NapVoyage x = inUse();
        for (int i = 0; i < 3; i++) {
            x.cut(0);
        }
        return x;
    }

    private static void fullChangesNothing() {
        refused("2: 8 LEGS, 48 HOURS", RefusalsTest::full, (x, none) -> x.leg(0, 1, 0, 0), FULL);
        refused("2: 2 LEGS, 48 HOURS", RefusalsTest::full, (x, none) -> x.leg(1, 1, 0, 0), FULL);
        refused("8: 60 signs", RefusalsTest::full, (x, none) -> x.say('1'), FULL);
        refused("2: 18 and 31 HOURS are 49", RefusalsTest::inUseLonger, (x, none) -> x.leg(0, 8, 0, 0), FULL);
        C.due("2: and one less is 48", inUseLonger().leg(0, 7, 0, 0), 48);
    }

    private static NapVoyage inUseLonger() {
        NapVoyage x = inUse();
        x.leg(0, 23, 9, 0);
        return x;
    }
}
