/**
 * The boundary cases of part 1 of the document and of promises 1 to 7: a test for each sentence
 * that names one.
 */
public final class NetBoundsTest {
    private static final int UNKNOWN = FireNets.UNKNOWN;
    private static final int OUTSIDE = FireNets.OUTSIDE;
    private static final int NOT = FireNets.NOT;
    private static final int FULL = FireNets.FULL;
    private static final int LOW = Integer.MIN_VALUE;
    private static final int HIGH = Integer.MAX_VALUE;

    private static final Due DUE = new Due("NetBoundsTest");

    public static void main(String[] args) {
        nodesFromOneToTen();
        oneNodeAtFirst();
        numbersFromZeroOn();
        nodesThatThereAreNot();
        linesBetweenUnlikeNodes();
        linesJoinedAlready();
        linesGoneBothWays();
        linesUpTo24();
        linesOfSevenNodesAreNeverFull();
        linesAreNoneInANewNet();
        linesOfOneNode();
        worthsFrom0To9();
        pricesFrom1To9();
        nodeWhats();
        worthsAndPricesAsAtFirst();
        planAsAtFirst();
        pursesOfTicks1To8();
        pursesFrom0To20();
        laterTicksHaveThePurseOfTick8();
        keeping0And1();
        keepingGoesAbove20();
        keepingOfNothing();
        withoutKeepingItIsGone();
        boundFrom50To1000();
        ruleWhats();
        countWhats();
        countsOfLeastAndMost();
        DUE.close();
    }

    /** "A NET has n NODES (1 .. 10 ..". */
    private static void nodesFromOneToTen() {
        FireNets x = Shapes.bare(4);
        for (int n : new int[] {0, 11, -1, 12, 32, 33, LOW, LOW + 1, HIGH}) {
            DUE.is("net(" + n + ")", x.net(n), OUTSIDE);
            DUE.is("nodes behind net(" + n + ")", x.count(0), 4);
        }
        for (int n = 1; n <= 10; n++) {
            DUE.is("net(" + n + ")", x.net(n), 1);
            DUE.is("nodes", x.count(0), n);
        }
    }

    /** ".. 1 at first)". */
    private static void oneNodeAtFirst() {
        FireNets x = new FireNets();
        DUE.is("nodes of a new object", x.count(0), 1);
        DUE.is("node 0", x.node(0, 0, 1), 1);
        DUE.is("node 1", x.node(1, 0, 1), UNKNOWN);
        DUE.is("fire on node 0", x.play(1, 1), 1);
        DUE.is("fire on node 1", x.play(2, 1), OUTSIDE);
    }

    /** "What has a number has it from 0 on." */
    private static void numbersFromZeroOn() {
        FireNets x = Shapes.bare(10);
        DUE.is("first node", x.node(0, 0, 2), 1);
        DUE.is("last node", x.node(9, 0, 2), 1);
        DUE.is("first line", x.line(9, 0), 0);
        DUE.is("second line", x.line(8, 0), 1);
        DUE.is("a refused one takes no number", x.line(0, 8), NOT);
        DUE.is("third line", x.line(7, 0), 2);
        DUE.is("bit 0 is node 0, bit 9 node 9", x.burns(1, 1), 1 + 128 + 256 + 512);
    }

    /** "UNKNOWN (a NODE that there is not)": below, above, and where a shift would wrap around. */
    private static void nodesThatThereAreNot() {
        FireNets x = Shapes.bare(3);
        for (int k : new int[] {-1, 3, 9, 10, 31, 32, 33, 64, -32, LOW, LOW + 1, HIGH}) {
            DUE.is("node " + k, x.node(k, 0, 1), UNKNOWN);
            DUE.is("price of " + k, x.node(k, 1, 1), UNKNOWN);
            DUE.is("line from " + k, x.line(k, 0), UNKNOWN);
            DUE.is("line to " + k, x.line(0, k), UNKNOWN);
            DUE.is("line from and to " + k, x.line(k, k), UNKNOWN);
        }
        DUE.is("lines", x.count(1), 0);
        DUE.is("worths", x.count(2), 3);
        x.net(2);
        DUE.is("a node of the net before", x.node(2, 0, 1), UNKNOWN);
    }

    /** "LINES between unlike ones"; "OUTSIDE: one NODE twice". */
    private static void linesBetweenUnlikeNodes() {
        FireNets x = Shapes.bare(10);
        for (int k = 0; k < 10; k++) DUE.is("line(" + k + ", " + k + ")", x.line(k, k), OUTSIDE);
        DUE.is("lines", x.count(1), 0);
        DUE.is("next number", x.line(0, 9), 0);
    }

    /** "NOT: they are joined already". */
    private static void linesJoinedAlready() {
        FireNets x = Shapes.bare(10);
        DUE.is("first and last", x.line(0, 9), 0);
        DUE.is("once more", x.line(0, 9), NOT);
        DUE.is("the other way", x.line(9, 0), NOT);
        DUE.is("lines", x.count(1), 1);
        DUE.is("not by way of another", x.line(9, 1), 1);
        DUE.is("so these are free yet", x.line(0, 1), 2);
    }

    /** "gone both ways". */
    private static void linesGoneBothWays() {
        FireNets x = Shapes.bare(10);
        x.line(9, 0);
        DUE.is("up", x.burns(1, 1), 513);
        DUE.is("down", x.burns(512, 1), 513);
    }

    /** "24 at most"; "FULL". */
    private static void linesUpTo24() {
        FireNets x = Shapes.dense(10, 23);
        DUE.is("lines", x.count(1), 23);
        DUE.is("the 24th", x.line(9, 8), 23);
        DUE.is("the 25th", x.line(9, 7), FULL);
        DUE.is("lines stay", x.count(1), 24);
        DUE.is("fire does not go where it was refused", x.burns(512, 1) & 128, 0);
        DUE.is("fire goes over the last one", x.burns(512, 1) & 256, 256);
    }

    /** The same sentence: seven nodes have all their lines before there are 24. */
    private static void linesOfSevenNodesAreNeverFull() {
        FireNets x = Shapes.dense(7, 24);
        DUE.is("lines", x.count(1), 21);
        for (int a = 0; a < 7; a++) DUE.is("one more", x.line(a, (a + 1) % 7), NOT);
        DUE.is("all at once", x.burns(64, 1), 127);
    }

    /** Promise 2: "without LINES", behind a full one, too. */
    private static void linesAreNoneInANewNet() {
        FireNets x = Shapes.dense(10, 24);
        DUE.is("net", x.net(10), 1);
        DUE.is("lines", x.count(1), 0);
        DUE.is("nothing is joined", x.burns(1, 20), 1);
        for (int k = 0; k < 9; k++) DUE.is("numbers anew", x.line(k, k + 1), k);
    }

    /** One node has none to be joined to. */
    private static void linesOfOneNode() {
        FireNets x = new FireNets();
        DUE.is("itself", x.line(0, 0), OUTSIDE);
        DUE.is("another", x.line(0, 1), UNKNOWN);
        DUE.is("lines", x.count(1), 0);
    }

    /** "A NODE has a WORTH (0 .. 9; 1 at first)". */
    private static void worthsFrom0To9() {
        FireNets x = Shapes.bare(10);
        for (int k = 0; k < 10; k++) {
            DUE.is("worth at first", x.node(k, 0, 0), 1);
            for (int v : new int[] {-1, 10, 32, LOW, HIGH}) DUE.is("worth " + v, x.node(k, 0, v), OUTSIDE);
            for (int v = 0; v < 9; v++) DUE.is("worth " + v + " is kept", x.node(k, 0, v + 1), v);
            DUE.is("worth 9 is kept", x.node(k, 0, 9), 9);
        }
    }

    /** ".. and a PRICE (1 .. 9; 1 at first)". */
    private static void pricesFrom1To9() {
        FireNets x = Shapes.bare(10);
        for (int k = 0; k < 10; k++) {
            DUE.is("price at first", x.node(k, 1, 1), 1);
            for (int v : new int[] {0, -1, 10, 32, LOW, HIGH}) DUE.is("price " + v, x.node(k, 1, v), OUTSIDE);
            for (int v = 1; v < 9; v++) DUE.is("price " + v + " is kept", x.node(k, 1, v + 1), v);
            DUE.is("price 9 is kept", x.node(k, 1, 9), 9);
        }
    }

    /** Promise 4: "what = 0 WORTH, 1 PRICE". */
    private static void nodeWhats() {
        FireNets x = Shapes.bare(2);
        for (int what : new int[] {-1, 2, 32, 33, LOW, HIGH}) {
            DUE.is("node(1, " + what + ", 5)", x.node(1, what, 5), OUTSIDE);
        }
        DUE.is("worth stays", x.node(1, 0, 1), 1);
        DUE.is("price stays", x.node(1, 1, 1), 1);
    }

    /** Promise 2: "WORTHS, PRICES .. as at first". */
    private static void worthsAndPricesAsAtFirst() {
        FireNets x = Shapes.bare(10);
        for (int k = 0; k < 10; k++) {
            x.node(k, 0, 9);
            x.node(k, 1, 9);
        }
        x.net(1);
        DUE.is("worths of one", x.count(2), 1);
        x.net(10);
        DUE.is("worths of ten", x.count(2), 10);
        for (int k = 0; k < 10; k++) {
            DUE.is("worth of " + k, x.node(k, 0, 1), 1);
            DUE.is("price of " + k, x.node(k, 1, 1), 1);
        }
    }

    /** Promise 2: ".. THE PLAN as at first": none in any of its ticks. */
    private static void planAsAtFirst() {
        FireNets x = Shapes.bare(3);
        for (int tick = 1; tick <= 8; tick++) x.plan(tick, 1023);
        DUE.is("a refused net leaves it", x.net(0), OUTSIDE);
        DUE.is("first tick", x.plan(1, 1023), 1023);
        DUE.is("last tick", x.plan(8, 1023), 1023);
        x.net(3);
        for (int tick = 1; tick <= 8; tick++) DUE.is("plan of " + tick, x.plan(tick, 0), 0);
    }

    /** "PURSE of TICK t (1 .. 8)". */
    private static void pursesOfTicks1To8() {
        FireNets x = new FireNets();
        for (int tick : new int[] {0, 9, -1, 32, 33, LOW, LOW + 1, HIGH}) {
            DUE.is("purse(" + tick + ", 7)", x.purse(tick, 7), OUTSIDE);
        }
        for (int tick = 1; tick <= 8; tick++) DUE.is("1 at first in " + tick, x.purse(tick, tick), 1);
        for (int tick = 1; tick <= 8; tick++) DUE.is("its own in " + tick, x.purse(tick, 1), tick);
    }

    /** "0 to 20 (1 at first)". */
    private static void pursesFrom0To20() {
        FireNets x = new FireNets();
        for (int tick : new int[] {1, 8}) {
            DUE.is("at first", x.purse(tick, 0), 1);
            for (int v : new int[] {-1, 21, 32, LOW, HIGH}) DUE.is("purse " + v, x.purse(tick, v), OUTSIDE);
            for (int v = 0; v < 20; v++) DUE.is("purse " + v + " is kept", x.purse(tick, v + 1), v);
            DUE.is("purse 20 is kept", x.purse(tick, 20), 20);
        }
    }

    /** "of later TICKS that of TICK 8": a rule saves the last of ten in tick 9 by it. */
    private static void laterTicksHaveThePurseOfTick8() {
        FireNets x = Shapes.purses(Shapes.path(10), 0);
        DUE.is("nothing in tick 8", x.live(0, 1, 1), 0);
        for (int k = 0; k < 9; k++) x.node(k, 1, 9);
        x.purse(8, 1);
        DUE.is("guards in tick 9", x.live(0, 1, 1), 512);
        x.node(9, 1, 2);
        DUE.is("too dear by 1 in tick 9", x.live(0, 1, 1), 0);
        x.purse(8, 2);
        DUE.is("guards for 2 in tick 9", x.live(0, 1, 1), 512);
        x.purse(8, 0);
        for (int tick = 1; tick <= 7; tick++) x.purse(tick, 8);
        DUE.is("not that of an earlier tick", x.live(0, 1, 1), 0);
        x.purse(8, 20);
        DUE.is("in tick 8 itself", x.live(0, 1, 1), 256);
    }

    /** Promise 6: "0 KEEPING (0, 1)"; "(at first so)": without it. */
    private static void keeping0And1() {
        FireNets x = new FireNets();
        for (int v : new int[] {-1, 2, 32, 33, LOW, HIGH}) DUE.is("keeping " + v, x.rule(0, v), OUTSIDE);
        DUE.is("at first", x.rule(0, 1), 0);
        for (int v : new int[] {-1, 2, 50}) DUE.is("keeping " + v, x.rule(0, v), OUTSIDE);
        DUE.is("kept", x.rule(0, 0), 1);
        DUE.is("and not", x.rule(0, 0), 0);
    }

    /** "what a TICK leaves of its PURSE comes to the next one's": above 20, too. */
    private static void keepingGoesAbove20() {
        FireNets x = Shapes.purses(Shapes.bare(10), 20);
        for (int k = 0; k < 10; k++) x.node(k, 1, 9);
        x.line(0, 1);
        x.line(1, 2);
        x.plan(2, 8 + 16 + 32 + 64);
        DUE.is("36 is too dear for 20", x.play(1, 0), FireNets.NONE);
        x.rule(0, 1);
        DUE.is("36 of 40", x.play(1, 4), 36);
        x.plan(2, 8 + 16 + 32 + 64 + 128);
        DUE.is("45 of 40", x.play(1, 0), FireNets.NONE);
        x.plan(2, 0);
        x.plan(3, 8 + 16 + 32 + 64 + 128 + 256);
        DUE.is("54 of 60 in tick 3", x.play(1, 4), 54);
        for (int tick = 1; tick <= 8; tick++) DUE.is("the purses themselves stay", x.purse(tick, 20), 20);
    }

    /** The same: where nothing is left nothing comes. */
    private static void keepingOfNothing() {
        FireNets x = Shapes.path(4);
        x.rule(0, 1);
        x.plan(1, 8);
        x.plan(2, 4);
        DUE.is("1 and 1", x.play(1, 4), 2);
        x.node(2, 1, 2);
        DUE.is("1 and then 2", x.play(1, 0), FireNets.NONE);
        x.plan(1, 0);
        DUE.is("0 and then 2", x.play(1, 4), 2);
        x.purse(2, 0);
        DUE.is("1 that was left is too little", x.play(1, 0), FireNets.NONE);
        x.node(2, 1, 1);
        DUE.is("1 that was left is enough", x.play(1, 4), 1);
    }

    /** "without it it is gone". */
    private static void withoutKeepingItIsGone() {
        FireNets x = Shapes.path(4);
        x.purse(1, 20);
        x.purse(2, 0);
        x.plan(2, 4);
        DUE.is("nothing in tick 2", x.play(1, 3), 2);
        DUE.is("it is bad", x.play(1, 0), FireNets.NONE);
        x.rule(0, 1);
        DUE.is("with it it is lawful", x.play(1, 0), 2);
        x.rule(0, 0);
        DUE.is("gone again", x.play(1, 0), FireNets.NONE);
    }

    /** "BOUND (50 .. 1000; 500 at first)". */
    private static void boundFrom50To1000() {
        FireNets x = new FireNets();
        for (int v : new int[] {49, 1001, 0, 1, -1, -50, LOW, HIGH}) DUE.is("bound " + v, x.rule(1, v), OUTSIDE);
        DUE.is("at first", x.rule(1, 50), 500);
        DUE.is("50 is kept", x.rule(1, 1000), 50);
        for (int v : new int[] {49, 1001}) DUE.is("bound " + v, x.rule(1, v), OUTSIDE);
        DUE.is("1000 is kept", x.rule(1, 51), 1000);
        DUE.is("51 is kept", x.rule(1, 999), 51);
    }

    /** Promise 6: what = 0 or 1. */
    private static void ruleWhats() {
        FireNets x = new FireNets();
        for (int what : new int[] {-1, 2, 32, 33, LOW, HIGH}) {
            DUE.is("rule(" + what + ", 1)", x.rule(what, 1), OUTSIDE);
            DUE.is("rule(" + what + ", 100)", x.rule(what, 100), OUTSIDE);
        }
        DUE.is("keeping stays", x.rule(0, 0), 0);
        DUE.is("bound stays", x.rule(1, 500), 500);
    }

    /** Promise 7: what = 0 to 4. */
    private static void countWhats() {
        FireNets x = new FireNets();
        for (int what : new int[] {-1, 5, 32, 33, LOW, HIGH}) DUE.is("count(" + what + ")", x.count(what), OUTSIDE);
    }

    /** Promise 7: the least and the most that there can be of each. */
    private static void countsOfLeastAndMost() {
        FireNets x = new FireNets();
        x.node(0, 0, 0);
        int[] least = {1, 0, 0, 0, 0};
        for (int what = 0; what < 5; what++) DUE.is("least of " + what, x.count(what), least[what]);
        FireNets y = Shapes.dense(10, 24);
        for (int k = 0; k < 10; k++) y.node(k, 0, 9);
        for (int k = 1; k <= 20; k++) {
            y.wall(k, 1, 20);
            y.wall(k, 2, 20);
        }
        int[] most = {10, 24, 90, 40, 40};
        for (int what = 0; what < 5; what++) DUE.is("most of " + what, y.count(what), most[what]);
    }
}
