/** Promises 1 to 7: a new object, nets and what they are set to. */
public final class NetsTest {
    private static final int UNKNOWN = FireNets.UNKNOWN;
    private static final int OUTSIDE = FireNets.OUTSIDE;
    private static final int NOT = FireNets.NOT;
    private static final int FULL = FireNets.FULL;
    private static final int LOW = Integer.MIN_VALUE;
    private static final int HIGH = Integer.MAX_VALUE;

    private static final Due DUE = new Due("NetsTest");

    public static void main(String[] args) {
        newObject();
        newObjectsFireAndWall();
        netOfNodes();
        netMakesAnew();
        netRefused();
        lineNumbersAndWays();
        lineRefused();
        lineFull();
        nodeWorthAndPrice();
        nodeRefused();
        purseOfTicks();
        ruleKeepingAndBound();
        counts();
        DUE.close();
    }

    private static void newObject() {
        FireNets x = new FireNets();
        int[] counts = {1, 0, 1, 0, 0};
        for (int what = 0; what < 5; what++) DUE.is("new count " + what, x.count(what), counts[what]);
        DUE.is("new worth", x.node(0, 0, 1), 1);
        DUE.is("new price", x.node(0, 1, 1), 1);
        DUE.is("no second node", x.node(1, 0, 1), UNKNOWN);
        for (int tick = 1; tick <= 8; tick++) {
            DUE.is("new purse " + tick, x.purse(tick, 1), 1);
            DUE.is("new plan " + tick, x.plan(tick, 0), 0);
        }
        DUE.is("new keeping", x.rule(0, 0), 0);
        DUE.is("new bound", x.rule(1, 500), 500);
    }

    private static void newObjectsFireAndWall() {
        FireNets x = new FireNets();
        DUE.is("the only node burns", x.play(1, 1), 1);
        DUE.is("no second start", x.play(2, 1), OUTSIDE);
        DUE.is("no wall", x.raze(), 0);
        DUE.is("an open board", x.board(1), 1201);
    }

    private static void netOfNodes() {
        FireNets x = new FireNets();
        for (int n = 1; n <= 10; n++) {
            DUE.is("net " + n, x.net(n), 1);
            DUE.is("nodes of net " + n, x.count(0), n);
            DUE.is("worths of net " + n, x.count(2), n);
            DUE.is("all burn " + n, x.play((1 << n) - 1, 1), (1 << n) - 1);
            DUE.is("more than all " + n, x.play(1 << n, 1), OUTSIDE);
        }
    }

    private static void netMakesAnew() {
        FireNets x = new FireNets();
        x.net(3);
        x.line(0, 1);
        x.line(1, 2);
        x.node(1, 0, 7);
        x.node(1, 1, 5);
        x.plan(1, 2);
        x.plan(8, 1023);
        x.purse(3, 9);
        x.rule(0, 1);
        x.rule(1, 77);
        x.wall(4, 4, 4);
        DUE.is("net(3) again", x.net(3), 1);
        DUE.is("no lines", x.count(1), 0);
        DUE.is("worths as at first", x.count(2), 3);
        DUE.is("worth as at first", x.node(1, 0, 1), 1);
        DUE.is("price as at first", x.node(1, 1, 1), 1);
        DUE.is("plan as at first", x.plan(1, 0), 0);
        DUE.is("last plan as at first", x.plan(8, 0), 0);
        DUE.is("purse stays", x.purse(3, 9), 9);
        DUE.is("keeping stays", x.rule(0, 1), 1);
        DUE.is("bound stays", x.rule(1, 77), 77);
        DUE.is("wall stays", x.count(3), 1);
        DUE.is("joined anew", x.line(1, 0), 0);
        DUE.is("old line is gone", x.play(1, 1), 3);
    }

    private static void netRefused() {
        FireNets x = new FireNets();
        x.net(4);
        x.line(2, 3);
        x.node(2, 0, 8);
        x.plan(2, 5);
        for (int n : new int[] {0, 11, -1, LOW, HIGH}) DUE.is("net " + n, x.net(n), OUTSIDE);
        DUE.is("nodes stay", x.count(0), 4);
        DUE.is("lines stay", x.count(1), 1);
        DUE.is("worths stay", x.count(2), 11);
        DUE.is("plan stays", x.plan(2, 5), 5);
    }

    private static void lineNumbersAndWays() {
        FireNets x = new FireNets();
        x.net(4);
        DUE.is("first", x.line(2, 0), 0);
        DUE.is("second", x.line(2, 3), 1);
        DUE.is("lines", x.count(1), 2);
        DUE.is("burns towards the second", x.burns(4, 1), 13);
        DUE.is("burns towards the first", x.burns(1, 1), 5);
        DUE.is("burns on", x.burns(1, 2), 13);
        DUE.is("not joined", x.play(2, 1), 2);
        x.line(1, 3);
        x.line(0, 3);
        DUE.is("towards all that are joined", x.burns(8, 1), 15);
        DUE.is("and from each of them", x.burns(1, 1), 13);
    }

    private static void lineRefused() {
        FireNets x = new FireNets();
        x.net(4);
        x.line(1, 2);
        DUE.is("no first node", x.line(4, 0), UNKNOWN);
        DUE.is("no second node", x.line(0, 4), UNKNOWN);
        DUE.is("below 0", x.line(-1, 0), UNKNOWN);
        DUE.is("below 0 behind", x.line(0, -1), UNKNOWN);
        DUE.is("far off", x.line(LOW, HIGH), UNKNOWN);
        DUE.is("unknown twice", x.line(4, 4), UNKNOWN);
        DUE.is("one twice", x.line(3, 3), OUTSIDE);
        DUE.is("joined", x.line(1, 2), NOT);
        DUE.is("joined the other way", x.line(2, 1), NOT);
        DUE.is("lines stay", x.count(1), 1);
        DUE.is("next number", x.line(3, 1), 1);
        DUE.is("from node 0", x.line(0, 3), 2);
        DUE.is("from node 0 again", x.line(0, 3), NOT);
        DUE.is("to node 0 again", x.line(3, 0), NOT);
    }

    private static void lineFull() {
        FireNets x = new FireNets();
        x.net(10);
        int made = 0;
        for (int a = 0; a < 10 && made < 24; a++) {
            for (int b = a + 1; b < 10 && made < 24; b++) DUE.is("line " + made, x.line(a, b), made++);
        }
        DUE.is("lines", x.count(1), 24);
        DUE.is("one more", x.line(8, 9), FULL);
        DUE.is("full, joined", x.line(1, 0), NOT);
        DUE.is("full, one twice", x.line(9, 9), OUTSIDE);
        DUE.is("full, unknown", x.line(9, 10), UNKNOWN);
        DUE.is("lines stay", x.count(1), 24);
        DUE.is("the last one carries fire", x.burns(4, 1) & 1 << 9, 1 << 9);
        DUE.is("the refused one does not", x.burns(1 << 8, 1) & 1 << 9, 0);
    }

    private static void nodeWorthAndPrice() {
        FireNets x = new FireNets();
        x.net(3);
        DUE.is("worth", x.node(2, 0, 9), 1);
        DUE.is("worth to 0", x.node(2, 0, 0), 9);
        DUE.is("worth from 0", x.node(2, 0, 4), 0);
        DUE.is("price", x.node(2, 1, 9), 1);
        DUE.is("price to 1", x.node(2, 1, 1), 9);
        DUE.is("price from 1", x.node(2, 1, 2), 1);
        DUE.is("worth apart from price", x.node(2, 0, 4), 4);
        DUE.is("other nodes stay", x.node(1, 0, 1), 1);
        DUE.is("worths in all", x.count(2), 6);
        DUE.is("what is saved", x.play(1, 0), 5);
    }

    private static void nodeRefused() {
        FireNets x = new FireNets();
        x.net(3);
        x.node(0, 0, 5);
        x.node(0, 1, 6);
        DUE.is("no node", x.node(3, 0, 1), UNKNOWN);
        DUE.is("below 0", x.node(-1, 0, 1), UNKNOWN);
        DUE.is("unknown comes first", x.node(10, 2, 10), UNKNOWN);
        DUE.is("unknown far off", x.node(HIGH, LOW, LOW), UNKNOWN);
        DUE.is("no such what", x.node(0, 2, 1), OUTSIDE);
        DUE.is("what below 0", x.node(0, -1, 1), OUTSIDE);
        DUE.is("worth 10", x.node(0, 0, 10), OUTSIDE);
        DUE.is("worth -1", x.node(0, 0, -1), OUTSIDE);
        DUE.is("price 10", x.node(0, 1, 10), OUTSIDE);
        DUE.is("price 0", x.node(0, 1, 0), OUTSIDE);
        DUE.is("worth stays", x.node(0, 0, 5), 5);
        DUE.is("price stays", x.node(0, 1, 6), 6);
    }

    private static void purseOfTicks() {
        FireNets x = new FireNets();
        for (int tick = 1; tick <= 8; tick++) DUE.is("purse " + tick, x.purse(tick, tick + 10), 1);
        for (int tick = 1; tick <= 8; tick++) DUE.is("was " + tick, x.purse(tick, 0), tick + 10);
        DUE.is("to 20", x.purse(1, 20), 0);
        DUE.is("tick 0", x.purse(0, 1), OUTSIDE);
        DUE.is("tick 9", x.purse(9, 1), OUTSIDE);
        DUE.is("tick far off", x.purse(LOW, 1), OUTSIDE);
        DUE.is("above 20", x.purse(1, 21), OUTSIDE);
        DUE.is("below 0", x.purse(1, -1), OUTSIDE);
        DUE.is("stays", x.purse(1, 20), 20);
    }

    private static void ruleKeepingAndBound() {
        FireNets x = new FireNets();
        DUE.is("keeping", x.rule(0, 1), 0);
        DUE.is("keeping no more", x.rule(0, 0), 1);
        DUE.is("bound", x.rule(1, 50), 500);
        DUE.is("bound to 1000", x.rule(1, 1000), 50);
        DUE.is("keeping 2", x.rule(0, 2), OUTSIDE);
        DUE.is("keeping -1", x.rule(0, -1), OUTSIDE);
        DUE.is("bound 49", x.rule(1, 49), OUTSIDE);
        DUE.is("bound 1001", x.rule(1, 1001), OUTSIDE);
        DUE.is("what 2", x.rule(2, 0), OUTSIDE);
        DUE.is("what -1", x.rule(-1, 50), OUTSIDE);
        DUE.is("keeping stays", x.rule(0, 0), 0);
        DUE.is("bound stays", x.rule(1, 1000), 1000);
    }

    private static void counts() {
        FireNets x = new FireNets();
        x.net(6);
        x.line(0, 5);
        x.node(5, 0, 0);
        x.node(4, 0, 9);
        x.wall(1, 1, 3);
        x.wall(2, 1, 7);
        x.wall(3, 1, 3);
        x.wall(30, -30, 20);
        int[] counts = {6, 1, 13, 4, 2};
        for (int what = 0; what < 5; what++) DUE.is("count " + what, x.count(what), counts[what]);
        DUE.is("count 5", x.count(5), OUTSIDE);
        DUE.is("count -1", x.count(-1), OUTSIDE);
        x.wall(4, 1, 20);
        x.wall(5, 1, 20);
        DUE.is("needed in the last tick", x.count(4), 3);
        x.raze();
        DUE.is("none needed", x.count(4), 0);
        DUE.is("no squares", x.count(3), 0);
    }
}
