import java.util.Random;

/** No call throws or answers outside of what it can, for any numbers in any state. */
public final class AnyCallTest {
    private static final Checks C = new Checks();
    private static final int[] EDGES = {Integer.MIN_VALUE, -7, -2, -1, 0, 1, 2, 3, 4, 5, 6, 7, 8, 10, 19, 20, 21, 23, 24, 25,
        33, 46, 47, 48, 49, 50, 51, 59, 60, 61, 108, 119, 126, 127, 500, 501, 999, 1000, 1001, 9999, 10000, 10001, 999999,
        1000000, 1000001, Integer.MAX_VALUE};

    public static void main(String[] args) {
        for (int run = 0; run < 200; run++) {
            Random random = new Random(run);
            NapVoyage x = new NapVoyage();
            for (int i = 0; i < 512; i++) {
                int kind = random.nextInt(25);
                int[] n = new int[5];
                for (int k = 0; k < n.length; k++) {
                    int edge = random.nextInt(3) == 0 ? random.nextInt(EDGES.length) : 3 + random.nextInt(9);
                    n[k] = random.nextInt(40) == 0 ? random.nextInt() : EDGES[edge];
                }
                int got;
                try {
                    got = call(x, kind, n);
                } catch (RuntimeException | StackOverflowError e) {
                    got = -100;
                }
                C.holds("run " + run + ", call " + i + " of kind " + kind + " answered " + got, got >= -6 && got <= 1000000);
            }
        }
        C.end("AnyCallTest");
    }

    private static int call(NapVoyage x, int kind, int[] n) {
        return switch (kind) {
            case 0 -> x.leg(n[0], n[1], n[2], n[3]);
            case 1 -> x.cut(n[0]);
            case 2 -> x.about(n[0], n[1], n[2]);
            case 3 -> x.nap(n[0], n[1], n[2]);
            case 4 -> x.owed(n[0], n[1], n[2], n[3]);
            case 5 -> x.risk(n[0], n[1], n[2], n[3], n[4]);
            case 6 -> x.say("w123.l!".charAt((n[0] & 7) % 7));
            case 7 -> n[0] == 1 ? x.wipe() : x.say(n[1]);
            case 8 -> x.fault();
            case 9 -> x.judge(n[0], n[1], n[2], n[3]);
            case 10 -> x.best(n[0], n[1], n[2], n[3], n[4]);
            case 11 -> x.does(n[0], n[1], n[2], n[3], n[4]);
            case 12 -> x.logged(n[0], n[1], n[2], n[3]);
            case 13 -> x.thumb(n[0], n[1], n[2], n[3]);
            case 14 -> x.worth(n[0], n[1], n[2], n[3]);
            case 15 -> x.round(n[0], n[1]);
            case 16 -> x.soonest(n[0], n[1], n[2], n[3]);
            case 17 -> x.two(n[0], n[1], n[2]);
            case 18 -> x.share(n[0], n[1]);
            case 19 -> x.up(n[0], n[1], n[2]);
            case 20 -> x.trust(n[0], n[1]);
            case 21 -> x.draw(n[0], n[1], n[2], n[3]);
            case 22 -> x.image(n[0]);
            case 23 -> x.restore(n[0]);
            default -> x.told(n[0]);
        };
    }
}
