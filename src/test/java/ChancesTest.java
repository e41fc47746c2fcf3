/** Promise 18: chances. */
public final class ChancesTest {
    private static final int UNKNOWN = FireNets.UNKNOWN;
    private static final int OUTSIDE = FireNets.OUTSIDE;
    private static final int NOT = FireNets.NOT;
    private static final int LOW = Integer.MIN_VALUE;
    private static final int HIGH = Integer.MAX_VALUE;

    private static final Due DUE = new Due("ChancesTest");

    public static void main(String[] args) {
        rows();
        rings();
        bridge();
        guards();
        certain();
        anotherNet();
        greatNumbers();
        refused();
        tooManyLines();
        DUE.close();
    }

    private static void is(FireNets x, int k, int fire, int guarded, int a, int b, long upper, long lower) {
        String call = "chance(" + k + ", " + fire + ", " + guarded + ", " + a + ", " + b + ", ";
        DUE.is(call + "0)", x.chance(k, fire, guarded, a, b, 0), upper);
        DUE.is(call + "1)", x.chance(k, fire, guarded, a, b, 1), lower);
    }

    private static void rows() {
        FireNets x = new FireNets();
        is(x, 0, 1, 0, 1, 2, 1, 1);
        x.net(5);
        for (int k = 0; k < 4; k++) x.line(k, k + 1);
        is(x, 1, 1, 0, 2, 3, 2, 3);
        is(x, 2, 1, 0, 2, 3, 4, 9);
        is(x, 4, 1, 0, 2, 3, 16, 81);
        is(x, 4, 1, 0, 4, 6, 16, 81);
        // From both ends: one way of chance 4 / 9 on either side of node 2.
        is(x, 2, 17, 0, 2, 3, 56, 81);
        is(x, 0, 16, 0, 5, 5, 1, 1);
        x.net(3);
        x.line(0, 1);
        is(x, 2, 1, 0, 1, 1, 0, 1);
    }

    private static void rings() {
        FireNets x = new FireNets();
        x.net(10);
        for (int k = 0; k < 10; k++) x.line(k, (k + 1) % 10);
        // Against the opposite node: two ways of chance 1 / 32.
        is(x, 5, 1, 0, 1, 2, 63, 1024);
        is(x, 9, 1, 0, 1, 2, 513, 1024);
        // One chord more, not towards the goal.
        x.line(1, 9);
        // Node 1: straight 1/2, or by 9 and the chord (9 burns by its own line), or round by 2 .. 9.
        is(x, 1, 1, 0, 0, 1, 0, 1);
        is(x, 1, 1, 0, 1, 1, 1, 1);
    }

    private static void bridge() {
        // The bridge of five lines, whose chance at a half is a half.
        FireNets x = new FireNets();
        x.net(4);
        x.line(0, 1);
        x.line(0, 2);
        x.line(1, 2);
        x.line(1, 3);
        x.line(2, 3);
        is(x, 3, 1, 0, 1, 2, 1, 2);
        // 2p^2 + 2p^3 - 5p^4 + 2p^5 at 1/3: (54 + 18 - 15 + 2) / 243.
        is(x, 3, 1, 0, 1, 3, 59, 243);
        is(x, 3, 1, 2, 1, 3, 1, 9);
        is(x, 3, 1, 6, 1, 3, 0, 1);
        // From 0 and 1: 1 - (1 - p) (1 - p (1 - (1 - p)^2)).
        is(x, 3, 3, 0, 1, 3, 37, 81);
    }

    private static void guards() {
        FireNets x = new FireNets();
        x.net(4);
        x.line(0, 1);
        x.line(1, 2);
        x.line(2, 3);
        is(x, 1, 1, 2, 1, 1, 0, 1);
        is(x, 2, 1, 2, 1, 1, 0, 1);
        is(x, 3, 1, 8, 1, 1, 0, 1);
        // Guards on a node of the fire do not count: it burns, and passes fire on.
        is(x, 0, 1, 1, 1, 2, 1, 1);
        is(x, 1, 1, 1, 1, 2, 1, 2);
        is(x, 2, 3, 15, 1, 2, 0, 1);
        is(x, 2, 3, 11, 1, 2, 1, 2);
        is(x, 1, 15, 15, 0, 6, 1, 1);
    }

    private static void certain() {
        FireNets x = new FireNets();
        x.net(4);
        x.line(0, 1);
        x.line(1, 2);
        is(x, 2, 1, 0, 6, 6, 1, 1);
        is(x, 2, 1, 0, 0, 6, 0, 1);
        is(x, 2, 1, 0, 0, 1, 0, 1);
        is(x, 2, 1, 0, 1, 1, 1, 1);
        is(x, 3, 1, 0, 1, 1, 0, 1);
        is(x, 3, 9, 0, 1, 3, 1, 1);
    }

    private static void anotherNet() {
        FireNets x = new FireNets();
        x.net(6);
        for (int k = 0; k < 5; k++) x.line(k, k + 1);
        is(x, 5, 1, 0, 1, 2, 1, 32);
        x.net(6);
        is(x, 1, 1, 0, 1, 2, 0, 1);
        x.line(0, 5);
        is(x, 5, 1, 0, 1, 2, 1, 2);
        is(x, 2, 1, 0, 1, 1, 0, 1);
        is(x, 4, 1, 0, 1, 1, 0, 1);
    }

    private static void greatNumbers() {
        // Six nodes between 0 and 1, each with two lines: 1 - (1 - 1/36)^6 = (36^6 - 35^6) / 36^6.
        FireNets x = new FireNets();
        x.net(8);
        for (int k = 2; k < 8; k++) {
            x.line(0, k);
            x.line(k, 1);
        }
        DUE.is("twelve lines", x.count(1), 12);
        is(x, 1, 1, 0, 1, 6, 2176782336L - 1838265625L, 2176782336L);
        is(x, 1, 1, 4 + 8 + 16 + 32 + 64, 5, 6, 25, 36);
        is(x, 1, 1, 4 + 8 + 16 + 32, 5, 6, 36 * 36 - 11 * 11, 36 * 36);
    }

    private static void refused() {
        FireNets x = new FireNets();
        x.net(3);
        for (int k : new int[] {3, -1, LOW, HIGH}) DUE.is("node " + k, x.chance(k, 1, 0, 1, 2, 0), UNKNOWN);
        DUE.is("unknown comes first", x.chance(3, 0, 8, 7, 7, 2), UNKNOWN);
        for (int fire : new int[] {0, 8, -1, LOW, HIGH}) {
            DUE.is("fire " + fire, x.chance(0, fire, 0, 1, 2, 0), OUTSIDE);
        }
        for (int guarded : new int[] {8, -1, LOW, HIGH}) {
            DUE.is("guarded " + guarded, x.chance(0, 1, guarded, 1, 2, 0), OUTSIDE);
        }
        DUE.is("all guarded", x.chance(1, 1, 7, 1, 2, 0), 0);
        DUE.is("b 0", x.chance(0, 1, 0, 0, 0, 0), OUTSIDE);
        DUE.is("b 7", x.chance(0, 1, 0, 1, 7, 0), OUTSIDE);
        DUE.is("b below 0", x.chance(0, 1, 0, -2, -1, 0), OUTSIDE);
        DUE.is("a above b", x.chance(0, 1, 0, 3, 2, 0), OUTSIDE);
        DUE.is("a below 0", x.chance(0, 1, 0, -1, 2, 0), OUTSIDE);
        DUE.is("what 2", x.chance(0, 1, 0, 1, 2, 2), OUTSIDE);
        DUE.is("what -1", x.chance(0, 1, 0, 1, 2, -1), OUTSIDE);
    }

    private static void tooManyLines() {
        FireNets x = new FireNets();
        x.net(10);
        for (int k = 0; k < 9; k++) x.line(k, k + 1);
        x.line(0, 2);
        x.line(0, 3);
        x.line(0, 4);
        DUE.is("twelve lines", x.chance(1, 1, 0, 1, 1, 0), 1);
        x.line(0, 5);
        DUE.is("thirteen", x.chance(1, 1, 0, 1, 1, 0), NOT);
        DUE.is("thirteen, a node of the fire", x.chance(0, 1, 0, 1, 1, 0), NOT);
        DUE.is("thirteen, unknown", x.chance(10, 1, 0, 1, 1, 0), UNKNOWN);
        DUE.is("thirteen, outside", x.chance(1, 0, 0, 1, 1, 0), OUTSIDE);
        DUE.is("thirteen, what", x.chance(1, 1, 0, 1, 1, 2), OUTSIDE);
    }
}
