/** Promises 19 to 26: two, share, up, trust, draw, image, restore, told. */
public final class TwoSignsDrawsTest {
    private static final int UNKNOWN = -1, OUTSIDE = -2, STATE = -3, NO = -5, NONE = -6;
    private static final Checks C = new Checks();

    public static void main(String[] args) {
        two();
        twoSleepsToNought();
        twoRefused();
        share();
        up();
        trust();
        draw();
        drawAsJudged();
        drawRefused();
        image();
        restore();
        restoreKeepsThePad();
        told();
        C.end("TwoSignsDrawsTest");
    }

    private static int safe(int... risks) {
        return Checks.safe(risks);
    }

    private static void two() {
        NapVoyage x = new NapVoyage();
        x.leg(0, 4, 100, 0);
        // Who WATCHES owes 12, 12 less 2, 12 less 2 and 1, 10 less 2 and 1 .. by turns of 1: a 12 13 11 12, b 12 10 11 9
        C.due("19: turn 1", x.two(0, 12, 1), safe(4000, 2000, 3000, 2000));
        // By turns of 2: a 12 13 14 12, b 12 10 8 9.
        C.due("19: turn 2", x.two(0, 12, 2), safe(4000, 5000, 2000, 2000));
        // By turns of 3: a 12 13 14 15, b 12 10 8 6.
        C.due("19: turn 3", x.two(0, 12, 3), safe(4000, 5000, 6000, 2000));
        C.due("19: turn 6, one alone all the time", x.two(0, 12, 6), safe(4000, 5000, 6000, 7000));
        C.due("19: 20 at most", x.two(0, 20, 6), safe(12000, 12000, 12000, 12000));
        C.due("19: of no HOURS", x.two(1, 20, 6), 1000000);
        x.thumb(0, 1, 20, 0);
        C.due("19: no HOUR is left of what was asked before", x.two(0, 12, 1), safe(4000, 2000, 3000, 2000));
        C.due("19: no HOUR is left, of no HOURS", x.two(1, 20, 6), 1000000);
        // A SQUALL in the midst: both owe 2 more, who owes less counts; turns go on by HOURS.
        NapVoyage y = new NapVoyage();
        y.leg(1, 1, 100, 0);
        y.leg(1, 2, 200, 1);
        y.leg(1, 2, 100, 0);
        // a 12 13 15 17 15; b 12 10 12 14 15: HOURS a, both (10), both (12), b (14), a (15).
        C.due("19: a SQUALL", y.two(1, 12, 1), safe(4000, 4000, 8000, 6000, 7000));
        // a 20 20 20 20 18, b 20 18 20 20 20: HOURS a (20), both (18), both (20), b (20), a (18).
        C.due("19: a SQUALL, 20 at most", y.two(1, 20, 1), safe(12000, 20000, 24000, 12000, 10000));
        // By turns of 2 from 0 on: a 0 1 3 5 3, b 0 0 2 4 5: all below 10.
        C.due("19: owing little", y.two(1, 0, 2), safe(2000, 4000, 4000, 2000, 2000));
    }

    private static void twoSleepsToNought() {
        NapVoyage x = new NapVoyage();
        x.leg(0, 2, 0, 0);
        x.leg(0, 7, 0, 1);
        x.leg(0, 1, 100, 1);
        // By turns of 2 from 0 on: b sleeps and owes 0 behind 2 HOURS, 14 behind 7 of SQUALL.
        C.due("19: b owes 0 at least", x.two(0, 0, 2), safe(100 * (20 + 40)));
        C.due("19: b slept from 3", x.two(0, 3, 2), safe(100 * (20 + 40)));
        // By turns of 1: a 0 1 0, b 0 0 1: a is the lesser one.
        C.due("19: a owes 0 at least", x.two(0, 0, 1), safe(100 * (20 + 40)));
    }

    private static void twoRefused() {
        NapVoyage x = new NapVoyage();
        x.leg(0, 4, 100, 0);
        C.due("19: way 2", x.two(2, 0, 1), UNKNOWN);
        C.due("19: unknown is ahead of outside", x.two(-1, 21, 0), UNKNOWN);
        C.due("19: owed 21", x.two(0, 21, 1), OUTSIDE);
        C.due("19: owed -1", x.two(0, -1, 1), OUTSIDE);
        C.due("19: turn 0", x.two(0, 0, 0), OUTSIDE);
        C.due("19: turn 7", x.two(0, 0, 7), OUTSIDE);
        C.due("20: way 2", x.share(2, 0), UNKNOWN);
        C.due("20: unknown is ahead of outside", x.share(2, 21), UNKNOWN);
        C.due("20: owed 21", x.share(0, 21), OUTSIDE);
        C.due("20: owed -1", x.share(0, -1), OUTSIDE);
        for (int far : Checks.extremes()) {
            C.due("19: way " + far, x.two(far, 0, 1), UNKNOWN);
            C.due("19: owed " + far, x.two(0, far, 1), OUTSIDE);
            C.due("19: turn " + far, x.two(0, 0, far), OUTSIDE);
            C.due("20: way " + far, x.share(far, 0), UNKNOWN);
            C.due("20: owed " + far, x.share(0, far), OUTSIDE);
        }
    }

    private static void share() {
        NapVoyage x = new NapVoyage();
        C.due("20: of no HOURS all are alike", x.share(0, 20), 1);
        x.leg(0, 4, 100, 0);
        C.due("20: turn 1", x.share(0, 12), 1);
        // SHIPS come in HOUR 4 alone: who WATCHES then has slept longest by turns of 4.
        NapVoyage y = new NapVoyage();
        y.leg(1, 4, 0, 0);
        y.leg(1, 1, 100, 0);
        C.due("20: turn 4", y.share(1, 20), 4);
        C.due("20: turn 4 is safest", y.two(1, 20, 4), safe(4000));
        C.due("20: turn 5 is not", y.two(1, 20, 5), safe(12000));
        C.due("20: alike, the least one", y.share(1, 0), 1);
        // SHIPS come in HOUR 2 alone, or in HOUR 6 alone.
        NapVoyage z = new NapVoyage();
        z.leg(0, 2, 0, 0);
        z.leg(0, 1, 100, 0);
        z.leg(1, 6, 0, 0);
        z.leg(1, 1, 100, 0);
        C.due("20: turn 2", z.share(0, 20), 2);
        C.due("20: turn 6", z.share(1, 20), 6);
        for (int owed = 0; owed <= 20; owed++) {
            int of = y.share(1, owed);
            for (int turn = 1; turn <= 6; turn++) {
                C.holds("20: no turn is safer", y.two(1, owed, turn) <= y.two(1, owed, of));
                C.holds("20: none less is as safe", turn >= of || y.two(1, owed, turn) < y.two(1, owed, of));
            }
        }
    }

    private static void up() {
        NapVoyage x = new NapVoyage();
        C.due("21: just as dear", x.up(10, 100, 0), 1);
        C.due("21: a little less", x.up(9, 111, 0), 0);
        C.due("21: a little more", x.up(9, 112, 0), 1);
        C.due("21: owing 20", x.up(1000, 201, 20), 1);
        C.due("21: owing 20, less", x.up(1000, 200, 20), 0);
        C.due("21: owing 1", x.up(11, 1000, 1), 1);
        C.due("21: owing 1, less", x.up(10, 1000, 1), 0);
        C.due("21: the most of all", x.up(1000, 10000, 20), 1);
        C.due("21: no ship", x.up(0, 10000, 0), 0);
        C.due("21: no cost", x.up(1000, 0, 0), 0);
        C.due("21: g 1001", x.up(1001, 1, 0), OUTSIDE);
        C.due("21: g -1", x.up(-1, 1, 0), OUTSIDE);
        C.due("21: c 10001", x.up(1, 10001, 0), OUTSIDE);
        C.due("21: c -1", x.up(1, -1, 0), OUTSIDE);
        C.due("21: owed 21", x.up(1, 1, 21), OUTSIDE);
        C.due("21: owed -1", x.up(1, 1, -1), OUTSIDE);
        for (int far : Checks.extremes()) {
            C.due("21: g " + far, x.up(far, 1, 0), OUTSIDE);
            C.due("21: c " + far, x.up(1, far, 0), OUTSIDE);
            C.due("21: owed " + far, x.up(1, 1, far), OUTSIDE);
        }
    }

    private static void trust() {
        NapVoyage x = new NapVoyage();
        C.due("22: 1 and nothing owed", x.trust(1, 0), 1000);
        C.due("22: 3", x.trust(3, 0), 334);
        C.due("22: 10000", x.trust(10000, 0), 1);
        C.due("22: owing 20", x.trust(201, 20), 1000);
        C.due("22: none", x.trust(200, 20), 1001);
        C.due("22: no cost", x.trust(0, 20), 1001);
        for (int owed = 0; owed <= 20; owed += 4) {
            for (int c = 0; c <= 10000; c += 625) {
                int g = x.trust(c, owed);
                C.holds("22: by it one gets up", g == 1001 || x.up(g, c, owed) == 1);
                C.holds("22: by less one does not", x.up(g - 1, c, owed) == 0);
            }
        }
        C.due("22: c 10001", x.trust(10001, 0), OUTSIDE);
        C.due("22: c -1", x.trust(-1, 0), OUTSIDE);
        C.due("22: owed 21", x.trust(1, 21), OUTSIDE);
        C.due("22: owed -1", x.trust(1, -1), OUTSIDE);
        for (int far : Checks.extremes()) {
            C.due("22: c " + far, x.trust(far, 0), OUTSIDE);
            C.due("22: owed " + far, x.trust(1, far), OUTSIDE);
        }
    }

    // From seed 0 on DRAWS are 74, 5624, 28652, 51790, 17641, 12409, 13231: 74, 624, 652, 790, 641, 409, 231 ..
    private static void draw() {
        NapVoyage x = new NapVoyage();
        x.leg(0, 10, 100, 0);
        C.due("23: an empty LOG", x.draw(0, 0, 0, 0), NONE);
        x.say('3');
        x.say('.');
        C.due("23: a ship comes by 74, one is STRUCK by 624", x.draw(0, 0, 0, 0), 0);
        x.nap(3, 1, 625);
        C.due("23: 624 is less than 625", x.draw(0, 0, 0, 0), 0);
        x.nap(3, 1, 624);
        // The second HOUR DRAWS 652: no ship.
        C.due("23: 624 is not less than 624", x.draw(0, 0, 0, 0), NONE);
        x.leg(1, 10, 74, 0);
        // No ship by 74, 624, 652, 790, 641, 409, 231.
        Checks.rewrite(x, "lllllll");
        C.due("23: 74 is not less than 74", x.draw(1, 0, 0, 0), NONE);
        NapVoyage y = new NapVoyage();
        y.leg(0, 4, 500, 0);
        y.nap(1, 1, 231);
        // A ship by 74, not STRUCK by 624; none by 652, 790, 641; one by 409, STRUCK by 231 or not.
        Checks.write(y, "llll1");
        C.due("23: not STRUCK by 231", y.draw(0, 0, 0, 0), NONE);
        y.nap(1, 1, 232);
        C.due("23: STRUCK by 231", y.draw(0, 0, 0, 0), 4);
        // 9999 * 75 + 74 = 749999, left over by 65537: 29092, 92; then 2181974: 19253, 253.
        Checks.rewrite(y, "l");
        C.due("23: seed 9999", y.draw(0, 0, 0, 9999), 0);
        NapVoyage z = new NapVoyage();
        z.leg(0, 4, 92, 0);
        Checks.write(z, "l");
        C.due("23: seed 9999, 92 is not less than 92", z.draw(0, 0, 0, 9999), NONE);
        // DRAWS begin with the seed each time.
        C.due("23: the same again", y.draw(0, 0, 0, 9999), 0);
    }

    private static void drawAsJudged() {
        NapVoyage x = new NapVoyage();
        x.leg(0, 2, 500, 0);
        x.leg(0, 1, 500, 1);
        Checks.write(x, "3.wl");
        for (int seed = 0; seed < 400; seed++) {
            int struck = x.draw(0, 20, 0, seed);
            C.holds("23: what can not be is not DRAWN", struck >= NONE && struck <= 2);
            C.due("23: what can be alone", struck, drawnOf(seed, new int[] {1000, 1000, 60 + 20}));
        }
        Checks.rewrite(x, "!1!1");
        for (int seed = 0; seed < 400; seed++) {
            C.due("23: BATTERY is as JUDGED", x.draw(0, 0, 1, seed), drawnOf(seed, new int[] {80}));
            C.due("23: enough BATTERY", x.draw(0, 0, 2, seed), drawnOf(seed, new int[] {80, 80}));
            C.due("23: of no HOURS", x.draw(1, 0, 2, seed), NONE);
        }
    }

    private static int drawnOf(int seed, int[] blind) {
        int s = seed;
        for (int i = 0; i < blind.length; i++) {
            s = (s * 75 + 74) % 65537;
            if (s % 1000 < 500) {
                s = (s * 75 + 74) % 65537;
                if (s % 1000 < blind[i]) {
                    return i;
                }
            }
        }
        return NONE;
    }

    private static void drawRefused() {
        NapVoyage x = new NapVoyage();
        x.leg(0, 4, 500, 0);
        Checks.write(x, "w3");
        C.due("23: there is a FAULT", x.draw(0, 0, 0, 0), NO);
        C.due("23: unknown is first", x.draw(2, 21, 25, 10000), UNKNOWN);
        C.due("23: owed 21, ahead of no", x.draw(0, 21, 0, 0), OUTSIDE);
        C.due("23: owed -1", x.draw(0, -1, 0, 0), OUTSIDE);
        C.due("23: battery 25", x.draw(0, 0, 25, 0), OUTSIDE);
        C.due("23: battery -1", x.draw(0, 0, -1, 0), OUTSIDE);
        C.due("23: seed 10000", x.draw(0, 0, 0, 10000), OUTSIDE);
        C.due("23: seed -1", x.draw(0, 0, 0, -1), OUTSIDE);
        x.wipe();
        for (int far : Checks.extremes()) {
            C.due("23: way " + far, x.draw(far, 0, 0, 0), UNKNOWN);
            C.due("23: owed " + far, x.draw(0, far, 0, 0), OUTSIDE);
            C.due("23: battery " + far, x.draw(0, 0, far, 0), OUTSIDE);
            C.due("23: seed " + far, x.draw(0, 0, 0, far), OUTSIDE);
        }
    }

    private static void image() {
        NapVoyage x = new NapVoyage();
        C.due("24: image(0)", x.image(0), 1);
        C.due("24: image(1)", x.image(1), 1);
        C.due("24: image(0) again", x.image(0), 1);
        C.due("24: image(2)", x.image(2), OUTSIDE);
        C.due("24: image(-1)", x.image(-1), OUTSIDE);
        C.due("25: restore(2)", x.restore(2), OUTSIDE);
        C.due("25: restore(-1)", x.restore(-1), OUTSIDE);
        for (int far : Checks.extremes()) {
            C.due("24: image " + far, x.image(far), OUTSIDE);
            C.due("25: restore " + far, x.restore(far), OUTSIDE);
        }
    }

    private static int[] all(NapVoyage x) {
        int[] all = new int[10 + 2 * 8 * 4];
        for (int what = 1; what <= 10; what++) {
            all[what - 1] = x.told(what);
        }
        for (int i = 0; i < 2 * 8 * 4; i++) {
            all[10 + i] = x.about(i / 32, i / 4 % 8, i % 4);
        }
        return all;
    }

    private static void restore() {
        NapVoyage x = new NapVoyage();
        C.due("25: not kept", x.restore(0), STATE);
        x.leg(0, 5, 100, 0);
        x.leg(0, 3, 20, 1);
        x.leg(1, 9, 7, 0);
        x.nap(1, 0, 4);
        x.nap(3, 1, 77);
        int[] first = all(x);
        x.image(0);
        C.due("25: the other one is not kept", x.restore(1), STATE);
        x.cut(0);
        x.leg(0, 20, 300, 0);
        x.cut(1);
        x.nap(1, 0, 9);
        x.nap(2, 1, 0);
        x.nap(3, 1, 78);
        int[] second = all(x);
        x.image(1);
        C.due("25: restore(0)", x.restore(0), 1);
        same("25: as it was first", all(x), first);
        C.due("25: OWED as it was", x.owed(0, 0, 9, 1), 5);
        C.due("25: RISK as it was", x.risk(0, 0, 0, 3, 0), 7700);
        C.due("25: SQUALL as it was", x.owed(0, 5, 9, 1), NO);
        x.leg(0, 1, 1, 1);
        x.nap(1, 0, 0);
        C.due("25: restore(0) again", x.restore(0), 1);
        same("25: the IMAGE stands whatever came behind", all(x), first);
        C.due("25: restore(1)", x.restore(1), 1);
        same("25: as it was second", all(x), second);
        x.image(0);
        x.cut(0);
        x.restore(0);
        same("25: an IMAGE is kept anew", all(x), second);
        C.due("25: RISK as it was second", x.risk(0, 5, 0, 3, 0), 300 * 78);
    }

    private static void same(String what, int[] got, int[] want) {
        for (int i = 0; i < want.length; i++) {
            C.due(what + ", number " + i, got[i], want[i]);
        }
    }

    private static void restoreKeepsThePad() {
        NapVoyage x = new NapVoyage();
        Checks.write(x, "w1");
        x.image(0);
        Checks.write(x, "3");
        x.leg(0, 1, 1, 0);
        x.restore(0);
        C.due("24: all but the PAD: signs", x.told(0), 3);
        C.due("24: all but the PAD: the FAULT", x.fault(), 3);
        C.due("24: the LEG is gone", x.told(1), 0);
        x.wipe();
        x.restore(0);
        C.due("24: what was wiped stays so", x.told(0), 0);
    }

    private static void told() {
        NapVoyage x = new NapVoyage();
        x.leg(0, 5, 100, 0);
        x.leg(1, 3, 20, 1);
        x.leg(1, 4, 20, 1);
        x.leg(1, 10, 20, 1);
        Checks.write(x, "wwww");
        for (int nap = 1; nap <= 3; nap++) {
            x.nap(nap, 0, 9 - nap);
            x.nap(nap, 1, 900 + nap);
        }
        int[] due = {4, 1, 3, 5, 17, 8, 7, 6, 901, 902, 903};
        for (int what = 0; what < due.length; what++) {
            C.due("26: told(" + what + ")", x.told(what), due[what]);
        }
        C.due("26: told(11)", x.told(11), OUTSIDE);
        C.due("26: told(-1)", x.told(-1), OUTSIDE);
        for (int far : Checks.extremes()) {
            C.due("26: told " + far, x.told(far), OUTSIDE);
        }
    }
}
