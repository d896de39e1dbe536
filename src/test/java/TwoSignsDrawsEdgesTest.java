import java.util.Arrays;

/**
 * Promises 19 to 26 and part 4 of the Terms at their edges: a method for each sentence that names one,
 * with the sentence above it.
 */
public final class TwoSignsDrawsEdgesTest {
    private static final int UNKNOWN = -1, OUTSIDE = -2, STATE = -3, FULL = -4, NO = -5, NONE = -6;
    private static final int LEAST = Integer.MIN_VALUE, GREATEST = Integer.MAX_VALUE;
    private static final int[] BEYOND_WAYS = {-1, 2, LEAST, GREATEST};
    private static final int[] BEYOND_OWED = {-1, 21, LEAST, GREATEST};
    private static final Checks C = new Checks();

    public static void main(String[] args) {
        whoWatches();
        twoWatchTwentyAtMost();
        theOtherNoughtAtLeast();
        inASquallBothWatch();
        inASquallByTheLesser();
        twoOfNoHours();
        twoOf48Hours();
        twoRanges();
        shareTheMostSafe();
        shareTheLeastSuch();
        shareRanges();
        upNoMoreInTheMean();
        upRanges();
        trustTheLeast();
        trustNone();
        trustRanges();
        drawLeftOverBy65537();
        drawShips();
        drawBlind();
        drawTheNextIfItComes();
        drawOfSixtyHours();
        drawOfNothing();
        drawWhatCanBe();
        drawRanges();
        drawWithAFault();
        imageAllButThePad();
        imageOfNothing();
        imageOfTheMost();
        imageAnew();
        restoreNotKept();
        imageRanges();
        toldLeastAndMost();
        toldRanges();
        fiveHundredTwelveCalls();
        C.end("TwoSignsDrawsEdgesTest");
    }

    private static NapVoyage of(int[]... legs) {
        return Checks.of(legs);
    }

    private static int[] leg(int way, int hours, int ships, int squall) {
        return Checks.leg(way, hours, ships, squall);
    }

    /** HOURS without SHIPS, then one with the most. */
    private static NapVoyage shipsInHour(int hour) {
        NapVoyage x = new NapVoyage();
        if (hour > 0) {
            x.leg(0, hour, 0, 0);
        }
        x.leg(0, 1, 500, 0);
        return x;
    }

    /** SAFE of one WATCH with the most SHIPS, owing so much. */
    private static int watched(int owed) {
        return 1000000 - 500 * (20 + 10 * Math.max(0, owed - 10));
    }

    /** Part 4: "in HOUR h who WATCHES is h by turn, left over by 2". */
    private static void whoWatches() {
        for (int turn = 1; turn <= 6; turn++) {
            // Both owe 20: the first one stays there, the second one sleeps to 20 - 2 * turn, then they change.
            C.due("19: HOUR 0, turn " + turn, shipsInHour(0).two(0, 20, turn), watched(20));
            C.due("19: the last HOUR of the first turn, " + turn, shipsInHour(turn - 1).two(0, 20, turn), watched(20));
            C.due("19: the first HOUR of the second turn, " + turn, shipsInHour(turn).two(0, 20, turn), watched(20 - 2 * turn));
            C.due("19: the last HOUR of the second turn, " + turn, shipsInHour(2 * turn - 1).two(0, 20, turn), watched(19 - turn));
            C.due("19: the first HOUR of the third turn, " + turn, shipsInHour(2 * turn).two(0, 20, turn), watched(20 - 2 * turn));
        }
    }

    /** Part 1: "WATCH: OWED becomes 1 more (20 at most", of who WATCHES. */
    private static void twoWatchTwentyAtMost() {
        C.due("19: owing 18, then 19", shipsInHour(1).two(0, 18, 6), watched(19));
        C.due("19: owing 19, then 20", shipsInHour(1).two(0, 19, 6), watched(20));
        C.due("19: owing 20, then 20", shipsInHour(1).two(0, 20, 6), watched(20));
        // Behind 6 HOURS of 20 and 6 of sleep: 8; were it 26, 14.
        C.due("19: 20 at most, then asleep", shipsInHour(12).two(0, 20, 6), watched(8));
    }

    /** Part 4: "the other one's OWED becomes 2 less (0 at least)". */
    private static void theOtherNoughtAtLeast() {
        // One sleeps in HOUR 0; 6 HOURS of SQUALL make 12 more of it; the lesser OWED counts.
        int[] due = {12, 12, 12, 13, 14};
        for (int owed = 0; owed <= 4; owed++) {
            NapVoyage x = of(leg(0, 1, 0, 0), leg(0, 6, 0, 1), leg(0, 1, 500, 1));
            C.due("19: owing " + owed + " asleep", x.two(0, owed, 1), watched(due[owed]));
        }
        // The other way about: the first one sleeps in HOURS 2 and 3, the second one in HOURS 0 and 1.
        NapVoyage y = of(leg(0, 4, 0, 0), leg(0, 6, 0, 1), leg(0, 1, 500, 1));
        C.due("19: both slept", y.two(0, 0, 2), watched(12));
        C.due("19: both slept, from 3 on", y.two(0, 3, 2), watched(13));
    }

    /** Part 4: "in a SQUALL both WATCH": 2 more of each, 20 at most. */
    private static void inASquallBothWatch() {
        NapVoyage x = of(leg(0, 1, 0, 1), leg(0, 1, 500, 0));
        int[] ahead = {9, 10, 17, 18, 19, 20};
        int[] behind = {11, 12, 19, 20, 20, 20};
        for (int i = 0; i < ahead.length; i++) {
            C.due("19: who was to WATCH, owing " + ahead[i], x.two(0, ahead[i], 2), watched(behind[i]));
            C.due("19: who was to sleep, owing " + ahead[i], x.two(0, ahead[i], 1), watched(behind[i]));
        }
    }

    /** Part 4: "BLIND is that of WATCH by who WATCHES (in a SQUALL by the lesser OWED)". */
    private static void inASquallByTheLesser() {
        int[] due = {18, 16, 14, 12, 10, 8};
        for (int asleep = 1; asleep <= 6; asleep++) {
            NapVoyage x = of(leg(0, asleep, 0, 0), leg(0, 1, 500, 1));
            C.due("19: the second one slept " + asleep, x.two(0, 20, 6), watched(due[asleep - 1]));
        }
        // By turns of 1: the first one owes 18, the second one 19.
        C.due("19: the first one slept last", of(leg(0, 2, 0, 0), leg(0, 1, 500, 1)).two(0, 20, 1), watched(18));
        C.due("19: both alike", of(leg(0, 1, 500, 1)).two(0, 20, 1), watched(20));
        C.due("19: turns go on through a SQUALL", of(leg(0, 1, 0, 1), leg(0, 1, 0, 0), leg(0, 1, 500, 0)).two(0, 20, 1), watched(18));
    }

    /** Part 1: "1000000 at first", of no HOURS. */
    private static void twoOfNoHours() {
        NapVoyage x = new NapVoyage();
        for (int turn = 1; turn <= 6; turn++) {
            C.due("19: no HOURS, turn " + turn, x.two(0, 20, turn), 1000000);
            C.due("19: no HOURS of the other WAY, turn " + turn, x.two(1, 0, turn), 1000000);
        }
        // Nothing is left over from what was asked before.
        x.leg(0, 1, 500, 0);
        x.say('l');
        C.due("11: an HOUR of LIE", x.judge(0, 0, 0, 3), 850000);
        C.due("19: no HOURS behind that", x.two(1, 0, 1), 1000000);
        C.due("19: one HOUR behind that", x.two(0, 0, 1), 990000);
        C.due("15: no HOURS behind that", x.thumb(1, 0, 0, 0), 1000000);
    }

    /** Part 1: "48 HOURS at most", by TWO. */
    private static void twoOf48Hours() {
        int[] risks = new int[48];
        for (int hour = 0; hour < 48; hour++) {
            risks[hour] = 1000000 - watched(Math.min(20, 2 * hour));
        }
        NapVoyage x = of(leg(1, 24, 500, 1), leg(1, 24, 500, 1));
        C.due("19: 48 HOURS of SQUALL", x.two(1, 0, 6), Checks.safe(risks));
        NapVoyage y = of(leg(0, 24, 500, 0), leg(0, 24, 500, 0));
        Arrays.fill(risks, 10000);
        C.due("19: 48 HOURS by turns of 1, nobody ever owing more than 1", y.two(0, 0, 1), Checks.safe(risks));
    }

    /** Part 4: "by turns of so many HOURS (1 to 6)"; promise 19: "UNKNOWN; OUTSIDE". */
    private static void twoRanges() {
        NapVoyage x = shipsInHour(0);
        C.due("19: turn 1", x.two(0, 0, 1), 990000);
        C.due("19: turn 6", x.two(0, 20, 6), 940000);
        for (int turn : new int[] {0, 7, -1, LEAST, GREATEST}) {
            C.due("19: turn " + turn, x.two(0, 0, turn), OUTSIDE);
            C.due("19: turn " + turn + " of no HOURS", x.two(1, 0, turn), OUTSIDE);
        }
        for (int owed : BEYOND_OWED) {
            C.due("19: OWED " + owed, x.two(0, owed, 1), OUTSIDE);
        }
        for (int way : BEYOND_WAYS) {
            C.due("19: WAY " + way, x.two(way, 0, 1), UNKNOWN);
        }
    }

    /** Part 4: "SHARE: the turn of the most SAFE". */
    private static void shareTheMostSafe() {
        for (int turn = 1; turn <= 6; turn++) {
            C.due("20: SHIPS in HOUR " + turn, shipsInHour(turn).share(0, 20), turn);
        }
    }

    /** Part 4: "the least such". */
    private static void shareTheLeastSuch() {
        C.due("20: no HOURS, all alike", new NapVoyage().share(0, 20), 1);
        C.due("20: no SHIPS, all alike", of(leg(0, 24, 0, 0)).share(0, 20), 1);
        C.due("20: one HOUR, all alike", shipsInHour(0).share(0, 20), 1);
        C.due("20: a SQUALL, all alike", of(leg(0, 24, 500, 1)).share(0, 7), 1);
        // SHIPS in HOUR 4, owing 14 at first: who WATCHES owes 12, 12, 9, 6, 18, 18 by turns of 1 to 6.
        NapVoyage x = shipsInHour(4);
        int[] owes = {12, 12, 9, 6, 18, 18};
        for (int turn = 1; turn <= 6; turn++) {
            C.due("19: SHIPS in HOUR 4, turn " + turn, x.two(0, 14, turn), watched(owes[turn - 1]));
        }
        C.due("20: 3 and 4 are alike", x.share(0, 14), 3);
        C.due("20: 1 is alike, too", x.share(0, 12), 1);
        C.due("20: 4 alone", x.share(0, 18), 4);
    }

    /** Promise 20: "UNKNOWN; OUTSIDE". */
    private static void shareRanges() {
        NapVoyage x = shipsInHour(1);
        C.due("20: owing 0", x.share(0, 0), 1);
        C.due("20: owing 20", x.share(0, 20), 1);
        for (int owed : BEYOND_OWED) {
            C.due("20: OWED " + owed, x.share(0, owed), OUTSIDE);
            C.due("20: OWED " + owed + " of no HOURS", x.share(1, owed), OUTSIDE);
        }
        for (int way : BEYOND_WAYS) {
            C.due("20: WAY " + way, x.share(way, 0), UNKNOWN);
        }
    }

    /** Part 4: "to get up costs 1 and 10 times OWED. UP: getting up costs no more in the mean". */
    private static void upNoMoreInTheMean() {
        NapVoyage x = new NapVoyage();
        int[][] alike = {{1000, 1, 0}, {1, 1000, 0}, {500, 2, 0}, {1000, 11, 1}, {11, 1000, 1}, {1000, 201, 20}, {201, 1000, 20}};
        for (int[] n : alike) {
            String of = n[0] + ", " + n[1] + ", " + n[2];
            C.due("21: it costs as much, " + of, x.up(n[0], n[1], n[2]), 1);
            C.due("21: g is less by 1, " + of, x.up(n[0] - 1, n[1], n[2]), 0);
            C.due("21: c is less by 1, " + of, x.up(n[0], n[1] - 1, n[2]), 0);
            C.due("21: c is more by 1, " + of, x.up(n[0], n[1] + 1, n[2]), 1);
        }
        // 3 times 333 by 1000 is 0.999: nothing is rounded up to 1.
        C.due("21: 999 thousandths", x.up(3, 333, 0), 0);
        C.due("21: 1002 thousandths", x.up(3, 334, 0), 1);
        C.due("21: no odds, the most cost", x.up(0, 10000, 0), 0);
        C.due("21: all odds, no cost", x.up(1000, 0, 0), 0);
        C.due("21: all odds, the most cost, the most OWED", x.up(1000, 10000, 20), 1);
        C.due("21: nothing at all", x.up(0, 0, 0), 0);
    }

    /** Part 4: "g thousandths (0 to 1000)", "c (0 to 10000)"; promise 21: "OUTSIDE". */
    private static void upRanges() {
        NapVoyage x = new NapVoyage();
        for (int g : new int[] {-1, 1001, LEAST, GREATEST}) {
            C.due("21: g " + g, x.up(g, 10000, 0), OUTSIDE);
        }
        for (int c : new int[] {-1, 10001, LEAST, GREATEST}) {
            C.due("21: c " + c, x.up(1000, c, 0), OUTSIDE);
        }
        for (int owed : BEYOND_OWED) {
            C.due("21: OWED " + owed, x.up(1000, 10000, owed), OUTSIDE);
        }
    }

    /** Part 4: "TRUST: the least g by which one gets up". */
    private static void trustTheLeast() {
        NapVoyage x = new NapVoyage();
        int[][] due = {{1, 0, 1000}, {2, 0, 500}, {3, 0, 334}, {999, 0, 2}, {1000, 0, 1}, {1001, 0, 1}, {10000, 0, 1},
            {11, 1, 1000}, {12, 1, 917}, {10000, 1, 2}, {201, 20, 1000}, {202, 20, 996}, {10000, 20, 21}};
        for (int[] n : due) {
            C.due("22: trust(" + n[0] + ", " + n[1] + ")", x.trust(n[0], n[1]), n[2]);
            C.due("22: by it one gets up", x.up(n[2], n[0], n[1]), 1);
            C.due("22: by 1 less one does not", x.up(n[2] - 1, n[0], n[1]), 0);
        }
    }

    /** Part 4: "1001: none". */
    private static void trustNone() {
        NapVoyage x = new NapVoyage();
        for (int owed = 0; owed <= 20; owed++) {
            C.due("22: c just enough, owing " + owed, x.trust(1 + 10 * owed, owed), 1000);
            C.due("22: c less by 1, owing " + owed, x.trust(10 * owed, owed), 1001);
            C.due("22: c 0, owing " + owed, x.trust(0, owed), 1001);
        }
    }

    /** Promise 22: "OUTSIDE". */
    private static void trustRanges() {
        NapVoyage x = new NapVoyage();
        for (int c : new int[] {-1, 10001, LEAST, GREATEST}) {
            C.due("22: c " + c, x.trust(c, 0), OUTSIDE);
        }
        for (int owed : BEYOND_OWED) {
            C.due("22: OWED " + owed, x.trust(10000, owed), OUTSIDE);
        }
    }

    /** One HOUR of NAP 1, owing 0, by SHIPS and BLIND. */
    private static void drawn(String what, int seed, int ships, int blind, int due) {
        NapVoyage x = of(leg(0, 1, ships, 0));
        x.nap(1, 1, blind);
        x.say('1');
        C.due("23: " + what + ", seed " + seed + ", SHIPS " + ships + ", BLIND " + blind, x.draw(0, 0, 0, seed), due);
    }

    /** Part 4: "the seed becomes itself times 75 and 74, left over by 65537". */
    private static void drawLeftOverBy65537() {
        // 872 * 75 + 74 is 65474, 873 * 75 + 74 is 65549: the first one that is left over, 12.
        drawn("474", 872, 474, 1000, NONE);
        drawn("474", 872, 475, 1000, 0);
        drawn("12", 873, 12, 1000, NONE);
        drawn("12", 873, 13, 1000, 0);
        // 0 becomes 74; 9999 becomes 29092.
        drawn("74", 0, 74, 1000, NONE);
        drawn("74", 0, 75, 1000, 0);
        drawn("92", 9999, 92, 1000, NONE);
        drawn("92", 9999, 93, 1000, 0);
        // From 5525 on the sixteenth DRAW is 0, the next one 74.
        for (int blind = 74; blind <= 75; blind++) {
            NapVoyage x = of(leg(0, 1, 0, 0), leg(0, 1, 1, 0));
            x.nap(1, 1, blind);
            Checks.write(x, "l".repeat(14) + "w1");
            C.due("23: a DRAW of 0, BLIND " + blind, x.draw(0, 0, 0, 5525), blind == 74 ? NONE : 15);
        }
    }

    /** Part 4: "a ship comes, if a DRAW left over by 1000 is less than SHIPS". */
    private static void drawShips() {
        // 1760 becomes 1000, then 9537.
        drawn("0 is not less than 0", 1760, 0, 1000, NONE);
        drawn("0 is less than 1", 1760, 1, 1000, 0);
        // 19 becomes 1499, then 46962; 1780 becomes 2500.
        drawn("499 is not less than 499", 19, 499, 1000, NONE);
        drawn("499 is less than 500", 19, 500, 1000, 0);
        drawn("500 is not less than 500", 1780, 500, 1000, NONE);
    }

    /** Part 4: "one is STRUCK, if the next DRAW left over by 1000 is less than BLIND". */
    private static void drawBlind() {
        // 323 becomes 24299, then 53000; 1460 becomes 44037, then 25999; 0 becomes 74, then 5624.
        drawn("0 is not less than 0", 323, 500, 0, NONE);
        drawn("0 is less than 1", 323, 500, 1, 0);
        drawn("999 is not less than 999", 1460, 500, 999, NONE);
        drawn("999 is less than 1000", 1460, 500, 1000, 0);
        drawn("624 is not less than 624", 0, 500, 624, NONE);
        drawn("624 is less than 625", 0, 500, 625, 0);
    }

    /** Part 4: "if it comes": without a ship there is no next DRAW; "which of the TIMES (from 0 on)". */
    private static void drawTheNextIfItComes() {
        // From 0 on: 74, 624, 652, 790, 641, 409, 231.
        NapVoyage x = of(leg(0, 24, 75, 0));
        x.nap(1, 1, 624);
        Checks.write(x, "111");
        C.due("23: not STRUCK by 624, no ship by 652 and 790", x.draw(0, 0, 0, 0), NONE);
        NapVoyage y = of(leg(0, 1, 74, 0), leg(0, 23, 500, 0));
        y.nap(3, 1, 1000);
        // No ship by 74, none by 624, none by 652, none by 790, none by 641; a ship by 409.
        Checks.write(y, "w1111");
        C.due("23: no ship in five HOURS", y.draw(0, 0, 0, 0), NONE);
        Checks.rewrite(y, "w1113.");
        C.due("23: STRUCK in the second HOUR of NAP 3", y.draw(0, 0, 0, 0), 5);
        Checks.rewrite(y, "w11113.");
        C.due("23: STRUCK in the first HOUR of NAP 3", y.draw(0, 0, 0, 0), 5);
        C.due("23: the same once more", y.draw(0, 0, 0, 0), 5);
    }

    /** "up to 60 signs": the last of sixty HOURS. */
    private static void drawOfSixtyHours() {
        // From 1 on the sixtieth DRAW is 22168, the next one 24249.
        for (int blind = 249; blind <= 250; blind++) {
            NapVoyage x = of(leg(0, 1, 0, 0), leg(0, 1, 500, 0));
            x.nap(1, 1, blind);
            Checks.write(x, "l".repeat(58) + "w1");
            C.due("23: sixty HOURS, BLIND " + blind, x.draw(0, 0, 0, 1), blind == 249 ? NONE : 59);
        }
    }

    /** Promise 23: "NONE", of a PAD without signs, of a WAY without LEGS, of HOURS without SHIPS. */
    private static void drawOfNothing() {
        NapVoyage x = of(leg(0, 24, 500, 0));
        for (int seed : new int[] {0, 1, 9998, 9999}) {
            C.due("23: no signs", x.draw(0, 20, 24, seed), NONE);
            C.due("23: no signs, no LEGS", x.draw(1, 20, 24, seed), NONE);
        }
        Checks.write(x, "3.".repeat(12));
        x.leg(1, 24, 0, 0);
        for (int seed = 0; seed < 100; seed++) {
            C.due("23: no SHIPS", x.draw(1, 20, 24, seed), NONE);
        }
        x.cut(1);
        C.due("23: no LEGS", x.draw(1, 20, 24, 0), NONE);
        C.due("23: SHIPS and LEGS", x.draw(0, 20, 24, 0), 0);
    }

    /** Part 4: "for each HOUR of THINGS that can be (as JUDGED)". */
    private static void drawWhatCanBe() {
        // Seed 0 brings a ship by 74 and strikes by 624.
        NapVoyage x = of(leg(0, 2, 100, 0), leg(1, 1, 100, 1));
        x.nap(1, 1, 1000);
        Checks.write(x, "!1");
        C.due("23: too little BATTERY", x.draw(0, 15, 0, 0), NONE);
        C.due("23: enough BATTERY", x.draw(0, 15, 1, 0), 0);
        C.due("23: not in a SQUALL", x.draw(1, 15, 1, 0), NONE);
        C.due("23: the BELL is heard: 400 of 1000", x.draw(0, 0, 1, 0), NONE);
        Checks.rewrite(x, "!3.");
        C.due("23: BATTERY 1 is too little for NAP 3", x.draw(0, 15, 1, 0), NONE);
        C.due("23: BATTERY 2 is enough", x.draw(0, 15, 2, 0), 0);
        x.cut(0);
        x.leg(0, 1, 100, 0);
        C.due("23: NAP 3 beyond the end", x.draw(0, 15, 2, 0), NONE);
    }

    /** Part 4: "a seed (0 to 9999)"; promise 23: "UNKNOWN; OUTSIDE". */
    private static void drawRanges() {
        NapVoyage x = of(leg(0, 1, 100, 0), leg(1, 1, 100, 0));
        Checks.write(x, "1");
        for (int seed : new int[] {-1, 10000, LEAST, GREATEST}) {
            C.due("23: seed " + seed, x.draw(0, 0, 0, seed), OUTSIDE);
        }
        for (int battery : new int[] {-1, 25, LEAST, GREATEST}) {
            C.due("23: BATTERY " + battery, x.draw(0, 0, battery, 0), OUTSIDE);
        }
        for (int owed : BEYOND_OWED) {
            C.due("23: OWED " + owed, x.draw(0, owed, 0, 0), OUTSIDE);
        }
        for (int way : BEYOND_WAYS) {
            C.due("23: WAY " + way, x.draw(way, 0, 0, 0), UNKNOWN);
        }
        // By 624 neither 200 nor, owing 20, 400 strikes; by 253 of seed 9999 400 does.
        C.due("23: the least of all", x.draw(0, 0, 0, 0), NONE);
        C.due("23: the most of all", x.draw(1, 20, 24, 9999), 0);
        C.due("23: the most but OWED", x.draw(1, 0, 24, 9999), NONE);
    }

    /** Promise 23: "NO: there is a FAULT". */
    private static void drawWithAFault() {
        for (String log : new String[] {"3", "!", "!3", ".", "?", "1!", "1".repeat(59) + "3", "1".repeat(59) + "."}) {
            NapVoyage x = of(leg(0, 24, 500, 0));
            Checks.write(x, log);
            C.due("23: " + log, x.draw(0, 0, 24, 0), NO);
            C.due("23: " + log + " on a WAY without LEGS", x.draw(1, 0, 24, 0), NO);
            x.wipe();
            C.due("23: wiped", x.draw(0, 0, 24, 0), NONE);
        }
    }

    /** Promise 24: "All but the PAD is kept"; promise 25: "It is as it was when it was kept". */
    private static void imageAllButThePad() {
        for (int n = 0; n <= 1; n++) {
            NapVoyage x = of(leg(0, 5, 100, 1), leg(1, 7, 200, 0));
            x.nap(1, 0, 9);
            x.nap(3, 1, 0);
            Checks.write(x, "w3");
            C.due("24: image(" + n + ")", x.image(n), 1);
            x.cut(0);
            x.leg(0, 9, 300, 0);
            x.leg(1, 1, 1, 1);
            x.nap(1, 0, 0);
            x.nap(3, 1, 1000);
            x.say('.');
            C.due("25: restore(" + n + ")", x.restore(n), 1);
            int[] due = {3, 1, 1, 5, 7, 9, 2, 6, 200, 500, 0};
            for (int what = 0; what < due.length; what++) {
                C.due("25: told(" + what + ")", x.told(what), due[what]);
            }
            C.due("25: SHIPS", x.about(0, 0, 1), 100);
            C.due("25: RISK", x.risk(0, 4, 0, 0, 0), 2000);
            C.due("25: WATCH in a SQUALL", x.owed(0, 4, 0, 0), 2);
            C.due("25: SQUALL", x.about(0, 0, 2), 1);
            C.due("25: the HOUR that was more is gone", x.owed(1, 7, 0, 0), OUTSIDE);
            C.due("24: the PAD is as it is", x.fault(), NONE);
            x.wipe();
            C.due("25: restore(" + n + ") again", x.restore(n), 1);
            C.due("24: the PAD stays wiped", x.told(0), 0);
        }
    }

    /** Promise 24 of a new object: no LEGS are kept, too. */
    private static void imageOfNothing() {
        NapVoyage x = new NapVoyage();
        C.due("24: of nothing", x.image(0), 1);
        x.leg(0, 3, 100, 0);
        C.due("12: SHIPS", x.best(0, 0, 0, 0, 0), Checks.safe(2000, 2000, 2000));
        Checks.write(x, "w".repeat(60));
        C.due("25: to nothing", x.restore(0), 1);
        C.due("25: no LEGS", x.told(1), 0);
        C.due("25: no HOURS", x.told(3), 0);
        C.due("25: none to cut", x.cut(0), NO);
        C.due("25: no HOUR 0", x.risk(0, 0, 0, 0, 0), OUTSIDE);
        C.due("25: BEST of no HOURS", x.best(0, 0, 0, 0, 0), 1000000);
        C.due("25: sixty signs stand", x.told(0), 60);
        C.due("25: and no more can be", x.say('w'), FULL);
    }

    /** Promise 24 of 8 LEGS and 48 HOURS. */
    private static void imageOfTheMost() {
        NapVoyage x = new NapVoyage();
        for (int n = 0; n < 8; n++) {
            x.leg(0, 6, 60 * n, n % 2);
            x.leg(1, 6, 500 - n, 0);
        }
        x.image(1);
        for (int n = 0; n < 16; n++) {
            x.cut(n % 2);
        }
        C.due("25: all went", x.told(1) + x.told(2), 0);
        for (int n = 0; n < 4; n++) {
            x.leg(n % 2, 24, 33, n / 2);
        }
        C.due("25: all is back", x.restore(1), 1);
        for (int n = 0; n < 8; n++) {
            C.due("25: HOURS of LEG " + n, x.about(0, n, 0), 6);
            C.due("25: first HOUR of LEG " + n, x.about(0, n, 3), 6 * n);
            C.due("25: SHIPS of LEG " + n, x.about(0, n, 1), 60 * n);
            C.due("25: SQUALL of LEG " + n, x.about(0, n, 2), n % 2);
            C.due("25: SHIPS of LEG " + n + " of WAY 1", x.about(1, n, 1), 500 - n);
            C.due("25: the last HOUR of LEG " + n, x.risk(0, 6 * n + 5, 0, 0, 0), 1200 * n);
        }
        C.due("25: no LEG more", x.leg(0, 1, 0, 0), FULL);
        C.due("25: HOUR 47", x.risk(1, 47, 0, 0, 0), 9860);
        C.due("25: HOUR 48", x.risk(1, 48, 0, 0, 0), OUTSIDE);
    }

    /** Promise 24: an IMAGE is kept anew, the other one stands; a restored one stands. */
    private static void imageAnew() {
        NapVoyage x = of(leg(0, 1, 1, 0));
        x.image(0);
        x.image(1);
        x.leg(0, 2, 2, 0);
        x.image(0);
        x.leg(0, 3, 3, 0);
        C.due("25: the one kept anew", x.restore(0) * 100 + x.told(3), 103);
        C.due("25: the other one", x.restore(1) * 100 + x.told(3), 101);
        C.due("25: the one kept anew once more", x.restore(0) * 100 + x.told(3), 103);
        x.cut(0);
        x.cut(0);
        C.due("25: and once more", x.restore(0) * 100 + x.told(3), 103);
        C.due("25: a restored one can be kept as the other", x.image(1) * 100 + x.told(3), 103);
        x.cut(0);
        C.due("25: and be restored", x.restore(1) * 100 + x.told(3), 103);
    }

    /** Promise 25: "STATE: it was not". */
    private static void restoreNotKept() {
        NapVoyage x = of(leg(0, 1, 1, 0));
        C.due("25: neither was kept, 0", x.restore(0), STATE);
        C.due("25: neither was kept, 1", x.restore(1), STATE);
        C.due("25: a refused image keeps nothing", x.image(2), OUTSIDE);
        C.due("25: still not 0", x.restore(0), STATE);
        C.due("25: still not 1", x.restore(1), STATE);
        x.image(1);
        C.due("25: 0 is not kept by 1", x.restore(0), STATE);
        C.due("25: 1 is kept", x.restore(1), 1);
        C.due("25: 0 is not kept by a restore", x.restore(0), STATE);
        C.due("25: the LEG stands", x.told(1), 1);
    }

    /** Promise 24: "an IMAGE (0, 1) .. OUTSIDE"; promise 25: "OUTSIDE". */
    private static void imageRanges() {
        NapVoyage x = new NapVoyage();
        for (int n : new int[] {-1, 2, LEAST, GREATEST}) {
            C.due("24: image(" + n + ")", x.image(n), OUTSIDE);
            C.due("25: restore(" + n + "), not STATE", x.restore(n), OUTSIDE);
        }
        C.due("24: image(0)", x.image(0), 1);
        C.due("24: image(1)", x.image(1), 1);
        C.due("25: restore(0)", x.restore(0), 1);
        C.due("25: restore(1)", x.restore(1), 1);
    }

    /** Promise 26: "0 signs, 1 and 2 LEGS, 3 and 4 HOURS, 5 to 7 GIVE, 8 to 10 DEEP": the least and the most of each. */
    private static void toldLeastAndMost() {
        NapVoyage x = new NapVoyage();
        for (int nap = 1; nap <= 3; nap++) {
            x.nap(nap, 0, 0);
            x.nap(nap, 1, 0);
        }
        for (int what = 0; what <= 10; what++) {
            C.due("26: the least, told(" + what + ")", x.told(what), 0);
        }
        for (int n = 0; n < 8; n++) {
            x.leg(0, 6, 1, 0);
            x.leg(1, 6, 1, 0);
        }
        for (int nap = 1; nap <= 3; nap++) {
            x.nap(nap, 0, 9);
            x.nap(nap, 1, 1000);
        }
        Checks.write(x, "?".repeat(60));
        int[] most = {60, 8, 8, 48, 48, 9, 9, 9, 1000, 1000, 1000};
        for (int what = 0; what <= 10; what++) {
            C.due("26: the most, told(" + what + ")", x.told(what), most[what]);
        }
    }

    /** Promise 26: "OUTSIDE". */
    private static void toldRanges() {
        NapVoyage x = new NapVoyage();
        C.due("26: told(0)", x.told(0), 0);
        C.due("26: told(10)", x.told(10), 800);
        for (int what : new int[] {-1, 11, LEAST, GREATEST}) {
            C.due("26: told(" + what + ")", x.told(what), OUTSIDE);
        }
    }

    /** "An object is used for at most 512 calls": the last of these answers as the first. */
    private static void fiveHundredTwelveCalls() {
        NapVoyage x = new NapVoyage();
        for (int round = 0; round < 63; round++) {
            x.leg(0, 24, 500, 0);
            x.leg(0, 24, 400, 1);
            x.nap(1, 1, round);
            x.best(0, 0, 20, 24, 4);
            x.image(round % 2);
            x.say('w');
            x.cut(0);
            x.cut(0);
        }
        C.due("26: call 505", x.told(0), 60);
        C.due("25: call 506", x.restore(0), 1);
        C.due("26: call 507", x.told(3), 48);
        C.due("9: call 508", x.wipe(), 60);
        C.due("26: call 509", x.told(8), 62);
        C.due("3: call 510", x.cut(0), 1);
        C.due("12: call 511", x.best(0, 23, 0, 0, 0), 990000);
        C.due("13: call 512", x.does(0, 24, 0, 0, 0), NONE);
    }
}
