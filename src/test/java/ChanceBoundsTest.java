/**
 * The boundary cases of part 4 of the document and of promise 18: a test for each sentence that
 * names one.
 */
public final class ChanceBoundsTest {
    private static final int UNKNOWN = FireNets.UNKNOWN;
    private static final int OUTSIDE = FireNets.OUTSIDE;
    private static final int NOT = FireNets.NOT;
    private static final int LOW = Integer.MIN_VALUE;
    private static final int HIGH = Integer.MAX_VALUE;

    private static final Due DUE = new Due("ChanceBoundsTest");

    public static void main(String[] args) {
        nodesThatThereAreNot();
        firesOfAllSets();
        guardedOfAllSets();
        sidesFrom1To6();
        chancesFrom0ToB();
        whats();
        netsWithoutLines();
        netsOfTwelveLines();
        netsOfMoreThanTwelveLines();
        twelveLinesAgainInANewNet();
        neverAndAlways();
        nodesOfTheFire();
        guardsOnNodesOfTheFire();
        guardedOnes();
        wayRoundGuards();
        leastTerms();
        numbersAboveAnInt();
        onceForAll();
        otherStateDoesNotMatter();
        DUE.close();
    }

    private static void is(String when, long upper, long lower, FireNets x, int k, int fire, int guarded, int a, int b) {
        String call = ": chance(" + k + ", " + fire + ", " + guarded + ", " + a + ", " + b + ", ";
        DUE.is(when + call + "0)", x.chance(k, fire, guarded, a, b, 0), upper);
        DUE.is(when + call + "1)", x.chance(k, fire, guarded, a, b, 1), lower);
    }

    /** "UNKNOWN (a NODE that there is not)". */
    private static void nodesThatThereAreNot() {
        FireNets x = Shapes.path(3);
        for (int k : new int[] {-1, 3, 9, 10, 31, 32, 33, 64, -32, LOW, LOW + 1, HIGH}) {
            DUE.is("node " + k, x.chance(k, 1, 0, 1, 2, 0), UNKNOWN);
        }
        is("the last one", 1, 4, x, 2, 1, 0, 1, 2);
        x.net(10);
        is("the last of ten", 0, 1, x, 9, 1, 0, 1, 2);
        DUE.is("one more", x.chance(10, 1, 0, 1, 2, 0), UNKNOWN);
    }

    /** "for a FIRE (1 .. 2^n - 1)", of each n. */
    private static void firesOfAllSets() {
        for (int n = 1; n <= 10; n++) {
            FireNets x = Shapes.path(n);
            for (int fire : new int[] {0, 1 << n, (1 << n) + 1, -1, 1 << 30, LOW, LOW + 1, HIGH}) {
                DUE.is("fire " + fire, x.chance(0, fire, 0, 1, 2, 0), OUTSIDE);
            }
            is("the first node", 1, 1 << n - 1, x, n - 1, 1, 0, 1, 2);
            is("the last node", 1, 1 << n - 1, x, 0, 1 << n - 1, 0, 1, 2);
            is("all", 1, 1, x, n - 1, (1 << n) - 1, 0, 1, 2);
        }
    }

    /** "GUARDED (0 .. 2^n - 1)", of each n. */
    private static void guardedOfAllSets() {
        for (int n = 2; n <= 10; n++) {
            FireNets x = Shapes.path(n);
            for (int guarded : new int[] {1 << n, (1 << n) + 1, -1, 1 << 30, LOW, LOW + 1, HIGH}) {
                DUE.is("guarded " + guarded, x.chance(0, 1, guarded, 1, 2, 0), OUTSIDE);
            }
            is("none", 1, 2, x, 1, 1, 0, 1, 2);
            is("the last one", 0, 1, x, n - 1, 1, 1 << n - 1, 1, 2);
            is("all", 0, 1, x, 1, 1, (1 << n) - 1, 1, 2);
        }
    }

    /** "b 1 .. 6": not 0, by which nothing can be divided, and not less. */
    private static void sidesFrom1To6() {
        FireNets x = Shapes.path(2);
        for (int b : new int[] {0, -1, 7, -6, 32, LOW, HIGH}) {
            DUE.is("0 / " + b, x.chance(1, 1, 0, 0, b, 0), OUTSIDE);
            DUE.is("1 / " + b, x.chance(1, 1, 0, 1, b, 1), OUTSIDE);
            DUE.is(b + " / " + b, x.chance(1, 1, 0, b, b, 1), OUTSIDE);
        }
        for (int b = 1; b <= 6; b++) is("1 / " + b, 1, b, x, 1, 1, 0, 1, b);
    }

    /** "a 0 .. b". */
    private static void chancesFrom0ToB() {
        FireNets x = Shapes.path(2);
        for (int b = 1; b <= 6; b++) {
            for (int a : new int[] {-1, b + 1, b + 32, LOW, HIGH}) {
                DUE.is(a + " / " + b, x.chance(1, 1, 0, a, b, 0), OUTSIDE);
            }
            is("none", 0, 1, x, 1, 1, 0, 0, b);
            is("all", 1, 1, x, 1, 1, 0, b, b);
        }
    }

    /** "what = 0 the upper, 1 the lower number". */
    private static void whats() {
        FireNets x = Shapes.path(2);
        for (int what : new int[] {-1, 2, 32, 33, LOW, HIGH}) {
            DUE.is("what " + what, x.chance(1, 1, 0, 2, 3, what), OUTSIDE);
        }
        is("the whats that there are", 2, 3, x, 1, 1, 0, 2, 3);
    }

    /** "(Of NETS with 12 LINES at most.)": none at all. */
    private static void netsWithoutLines() {
        is("one node", 1, 1, new FireNets(), 0, 1, 0, 1, 6);
        is("one guarded node that burns", 1, 1, new FireNets(), 0, 1, 1, 1, 6);
        is("another one", 0, 1, Shapes.bare(10), 9, 511, 0, 6, 6);
    }

    /** The same: twelve are counted, all of them. */
    private static void netsOfTwelveLines() {
        FireNets x = Shapes.path(10);
        x.line(0, 2);
        x.line(2, 4);
        // The last line leads to node 9 beside the row.
        x.line(7, 9);
        DUE.is("lines", x.count(1), 12);
        // Over each of three triangles p + p^2 - p^3 = 5 / 8, over each other line 1 / 2: nodes 0, 2,
        // 4, 5, 6, 7, 9.
        is("three triangles", 125, 4096, x, 9, 1, 0, 1, 2);
        is("the last line alone", 1, 2, x, 9, 128, 256, 1, 2);
    }

    /** "NOT: more than 12 LINES". */
    private static void netsOfMoreThanTwelveLines() {
        FireNets x = Shapes.dense(10, 12);
        is("twelve", 1, 1, x, 1, 1, 0, 1, 1);
        x.line(9, 8);
        DUE.is("thirteen", x.chance(1, 1, 0, 1, 1, 0), NOT);
        DUE.is("thirteen, a node of the fire", x.chance(0, 1, 0, 1, 1, 1), NOT);
        DUE.is("thirteen, all guarded", x.chance(0, 1, 1023, 0, 1, 1), NOT);
        FireNets y = Shapes.dense(10, 24);
        DUE.is("twenty-four", y.chance(1, 1, 0, 1, 1, 0), NOT);
    }

    /** The same: it is the net's lines that count, not those of one before. */
    private static void twelveLinesAgainInANewNet() {
        FireNets x = Shapes.dense(10, 24);
        x.net(10);
        is("none", 0, 1, x, 1, 1, 0, 1, 1);
        for (int k = 0; k < 9; k++) x.line(k, k + 1);
        is("nine", 1, 512, x, 9, 1, 0, 1, 2);
        is("no line of the net before", 0, 1, x, 2, 1, 2, 1, 1);
    }

    /** "a 0 .. b": over lines that never pass fire, and that always do. */
    private static void neverAndAlways() {
        FireNets x = Shapes.dense(10, 12);
        for (int k = 1; k < 10; k++) {
            for (int b : new int[] {1, 6}) {
                is("never", 0, 1, x, k, 1, 0, 0, b);
                is("always", 1, 1, x, k, 1, 0, b, b);
            }
        }
    }

    /** "(a NODE of the FIRE: 1; ..". */
    private static void nodesOfTheFire() {
        FireNets x = Shapes.bare(10);
        for (int k = 0; k < 10; k++) {
            is("all burn", 1, 1, x, k, 1023, 0, 0, 1);
            is("it alone", 1, 1, x, k, 1 << k, 0, 0, 6);
        }
    }

    /** ".. GUARDS on NODES of the FIRE do not count; ..": they burn, and pass fire on. */
    private static void guardsOnNodesOfTheFire() {
        FireNets x = Shapes.path(3);
        is("it burns", 1, 1, x, 0, 1, 1, 1, 2);
        is("it passes fire on", 1, 2, x, 1, 1, 1, 1, 2);
        is("all of the fire", 3, 4, x, 1, 5, 5, 1, 2);
        is("all, and all burn", 1, 1, x, 1, 7, 7, 1, 2);
        is("one of two", 1, 2, x, 2, 3, 2, 1, 2);
    }

    /** ".. of other GUARDED ones: 0)". */
    private static void guardedOnes() {
        FireNets x = Shapes.path(4);
        for (int k = 1; k < 4; k++) {
            is("itself", 0, 1, x, k, 1, 1 << k, 1, 1);
            is("all others of the fire", 0, 1, x, k, 15 - (1 << k), 1 << k, 1, 1);
            is("all", 0, 1, x, k, 1, 15, 1, 1);
        }
    }

    /** "over NODES without GUARDS": not behind one, but round about it. */
    private static void wayRoundGuards() {
        FireNets x = Shapes.path(4);
        is("behind one", 0, 1, x, 3, 1, 4, 1, 1);
        x.line(3, 0);
        is("round about it", 1, 2, x, 3, 1, 4, 1, 2);
        is("with guards on both sides", 0, 1, x, 2, 1, 2 + 8, 1, 1);
        is("with none", 7, 16, x, 2, 1, 0, 1, 2);
    }

    /** "fractions are in least terms, the lower number above 0". */
    private static void leastTerms() {
        FireNets x = Shapes.path(2);
        is("2 / 4", 1, 2, x, 1, 1, 0, 2, 4);
        is("4 / 6", 2, 3, x, 1, 1, 0, 4, 6);
        is("6 / 6", 1, 1, x, 1, 1, 0, 6, 6);
        is("0 / 6", 0, 1, x, 1, 1, 0, 0, 6);
        x = Shapes.dense(3, 3);
        // p + p^2 - p^3 at 1 / 3: 9 / 27 + 3 / 27 - 1 / 27.
        is("of a triangle", 11, 27, x, 1, 1, 0, 2, 6);
        FireNets y = Shapes.path(10);
        y.line(0, 9);
        is("lines that do not matter do not show", 1, 6, y, 1, 1, 4, 1, 6);
    }

    /** Whole numbers of a long: 6^12 does not fit an int. */
    private static void numbersAboveAnInt() {
        FireNets x = Shapes.bare(8);
        for (int k = 2; k < 8; k++) {
            x.line(0, k);
            x.line(k, 1);
        }
        long all = 2176782336L;
        // Not over one of six ways of two lines each: (35 / 36)^6, or (11 / 36)^6 at 5 / 6.
        is("1 / 6", all - 1838265625L, all, x, 1, 1, 0, 1, 6);
        is("5 / 6", all - 1771561L, all, x, 1, 1, 0, 5, 6);
        is("never", 0, 1, x, 1, 1, 0, 0, 6);
        is("always", 1, 1, x, 1, 1, 0, 6, 6);
    }

    /** "once for all": a line is not tried anew from its other end. */
    private static void onceForAll() {
        FireNets x = Shapes.dense(3, 3);
        is("both other ways lead over it", 5, 8, x, 1, 1, 0, 1, 2);
        is("from both ends", 3, 4, x, 2, 3, 0, 1, 2);
    }

    /** What is not told in the call does not count: purses, prices, worths, the plan, the wall. */
    private static void otherStateDoesNotMatter() {
        FireNets x = Shapes.purses(Shapes.path(3), 20);
        for (int k = 0; k < 3; k++) {
            x.node(k, 0, 0);
            x.node(k, 1, 9);
        }
        x.plan(1, 2);
        x.rule(0, 1);
        x.rule(1, 50);
        x.wall(1, 0, 1);
        is("two lines", 1, 4, x, 2, 1, 0, 1, 2);
    }
}
