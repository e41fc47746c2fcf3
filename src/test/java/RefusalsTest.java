import java.util.ArrayList;
import java.util.List;

/**
 * "REFUSALS, of several the first in this order: UNKNOWN .., OUTSIDE .., NOT .., FULL. What is
 * refused changes nothing." Each refused call is made on one of two objects of like calls; then all
 * that can be asked of both must be answered alike.
 */
public final class RefusalsTest {
    private static final int UNKNOWN = FireNets.UNKNOWN;
    private static final int OUTSIDE = FireNets.OUTSIDE;
    private static final int NOT = FireNets.NOT;
    private static final int FULL = FireNets.FULL;

    private static final Due DUE = new Due("RefusalsTest");

    /** One call on an object. */
    private interface Call {
        long on(FireNets x);
    }

    /** A state, as the calls that lead to it. */
    private interface State {
        FireNets make();
    }

    public static void main(String[] args) {
        unknownBeforeOutside();
        unknownBeforeNotAndFull();
        outsideBeforeNotAndFull();
        notBeforeFull();
        fullAlone();
        outsideAlone();
        DUE.close();
    }

    /** Four nodes, three lines, all else as it was not at first. */
    private static FireNets rich() {
        FireNets x = Shapes.path(4);
        for (int k = 0; k < 4; k++) {
            x.node(k, 0, 2 * k + 1);
            x.node(k, 1, k % 2 + 1);
        }
        for (int tick = 1; tick <= 8; tick++) {
            x.purse(tick, tick % 3);
            x.plan(tick, tick == 2 ? 8 : 0);
        }
        x.rule(0, 1);
        x.rule(1, 60);
        x.wall(1, 0, 1);
        x.wall(0, 1, 1);
        x.wall(-1, 0, 2);
        return x;
    }

    /** Ten nodes, all lines and all squares that there may be. */
    private static FireNets full() {
        FireNets x = Shapes.ring(10, 10);
        x.net(10);
        int made = 0;
        for (int a = 0; a < 10; a++) {
            for (int b = a + 1; b < 10 && made < 24; b++, made++) x.line(a, b);
        }
        x.plan(1, 2);
        x.rule(1, 50);
        return x;
    }

    private static void refused(String call, int due, State state, Call made) {
        FireNets x = state.make();
        DUE.is(call, made.on(x), due);
        DUE.holds(call + " changes nothing", told(x).equals(told(state.make())));
    }

    /** All that an object tells; what has to be changed for it comes last. */
    private static List<Long> told(FireNets x) {
        List<Long> told = new ArrayList<>();
        for (int what = 0; what < 5; what++) told.add((long) x.count(what));
        for (int what = 0; what < 4; what++) told.add((long) x.board(what));
        for (int fire : new int[] {1, 2, 5, 8}) {
            for (int what = 0; what < 5; what++) told.add((long) x.play(fire, what));
            for (int what = 0; what < 12; what++) told.add((long) x.best(fire, what));
            for (int rule = 0; rule < 3; rule++) told.add((long) x.live(rule, fire, 0));
            for (int k = 0; k < 4; k++) told.add(x.chance(k, fire, 0, 2, 3, 0));
            told.add((long) x.least(fire, 5));
        }
        for (int tick = 0; tick <= 5; tick++) told.add((long) x.burns(1, tick));
        for (int what = 0; what < 2; what++) told.add((long) x.rule(what, what == 0 ? 0 : 500));
        for (int tick = 1; tick <= 8; tick++) {
            told.add((long) x.plan(tick, 0));
            told.add((long) x.purse(tick, 1));
        }
        for (int k = 0; k < 10; k++) {
            told.add((long) x.node(k, 0, 1));
            told.add((long) x.node(k, 1, 1));
        }
        for (int a = 0; a < 10; a++) for (int b = a + 1; b < 10; b++) told.add((long) x.line(a, b));
        for (int v = -2; v <= 2; v++) {
            told.add((long) x.wall(v, 0, 20));
            told.add((long) x.wall(0, v, 20));
        }
        told.add((long) x.raze());
        return told;
    }

    private static void unknownBeforeOutside() {
        refused("line(4, 4)", UNKNOWN, RefusalsTest::rich, x -> x.line(4, 4));
        refused("line(-1, -1)", UNKNOWN, RefusalsTest::rich, x -> x.line(-1, -1));
        refused("node(4, 2, 5)", UNKNOWN, RefusalsTest::rich, x -> x.node(4, 2, 5));
        refused("node(4, 0, 10)", UNKNOWN, RefusalsTest::rich, x -> x.node(4, 0, 10));
        refused("node(4, 1, 0)", UNKNOWN, RefusalsTest::rich, x -> x.node(4, 1, 0));
        refused("node(4, 0, 5)", UNKNOWN, RefusalsTest::rich, x -> x.node(4, 0, 5));
        refused("node(-1, 0, 5)", UNKNOWN, RefusalsTest::rich, x -> x.node(-1, 0, 5));
        refused("chance(4, 0, ..)", UNKNOWN, RefusalsTest::rich, x -> x.chance(4, 0, 0, 1, 2, 0));
        refused("chance(4, 16, ..)", UNKNOWN, RefusalsTest::rich, x -> x.chance(4, 16, 0, 1, 2, 0));
        refused("chance(4, 1, 16, ..)", UNKNOWN, RefusalsTest::rich, x -> x.chance(4, 1, 16, 1, 2, 0));
        refused("chance(4, .. 3, 2, ..)", UNKNOWN, RefusalsTest::rich, x -> x.chance(4, 1, 0, 3, 2, 0));
        refused("chance(4, .. 0, 0, ..)", UNKNOWN, RefusalsTest::rich, x -> x.chance(4, 1, 0, 0, 0, 0));
        refused("chance(4, .., 2)", UNKNOWN, RefusalsTest::rich, x -> x.chance(4, 1, 0, 1, 2, 2));
    }

    private static void unknownBeforeNotAndFull() {
        refused("line(0, 4)", UNKNOWN, RefusalsTest::rich, x -> x.line(0, 4));
        refused("full line(0, 10)", UNKNOWN, RefusalsTest::full, x -> x.line(0, 10));
        refused("full line(10, 0)", UNKNOWN, RefusalsTest::full, x -> x.line(10, 0));
        refused("full line(10, 10)", UNKNOWN, RefusalsTest::full, x -> x.line(10, 10));
        refused("full chance(10, ..)", UNKNOWN, RefusalsTest::full, x -> x.chance(10, 1, 0, 1, 2, 0));
        refused("full chance(10, 0, ..)", UNKNOWN, RefusalsTest::full, x -> x.chance(10, 0, 0, 1, 2, 0));
    }

    private static void outsideBeforeNotAndFull() {
        refused("line(1, 1)", OUTSIDE, RefusalsTest::rich, x -> x.line(1, 1));
        refused("full line(9, 9)", OUTSIDE, RefusalsTest::full, x -> x.line(9, 9));
        refused("full chance(0, 0, ..)", OUTSIDE, RefusalsTest::full, x -> x.chance(0, 0, 0, 1, 2, 0));
        refused("full chance(0, 1, 1024, ..)", OUTSIDE, RefusalsTest::full, x -> x.chance(0, 1, 1024, 1, 2, 0));
        refused("full chance(.. 3, 2, ..)", OUTSIDE, RefusalsTest::full, x -> x.chance(0, 1, 0, 3, 2, 0));
        refused("full chance(.. 0, 0, ..)", OUTSIDE, RefusalsTest::full, x -> x.chance(0, 1, 0, 0, 0, 0));
        refused("full chance(.., 2)", OUTSIDE, RefusalsTest::full, x -> x.chance(0, 1, 0, 1, 2, 2));
        refused("wall of one already, at no tick", OUTSIDE, RefusalsTest::rich, x -> x.wall(1, 0, 0));
        refused("wall of one already, at tick 21", OUTSIDE, RefusalsTest::rich, x -> x.wall(1, 0, 21));
        refused("full wall(0, 0, 1)", OUTSIDE, RefusalsTest::full, x -> x.wall(0, 0, 1));
        refused("full wall(31, 0, 1)", OUTSIDE, RefusalsTest::full, x -> x.wall(31, 0, 1));
        refused("full wall(0, -31, 1)", OUTSIDE, RefusalsTest::full, x -> x.wall(0, -31, 1));
        refused("full wall(1, 1, 0)", OUTSIDE, RefusalsTest::full, x -> x.wall(1, 1, 0));
        refused("full wall of one already, at tick 21", OUTSIDE, RefusalsTest::full, x -> x.wall(10, 0, 21));
    }

    private static void notBeforeFull() {
        refused("line(0, 1)", NOT, RefusalsTest::rich, x -> x.line(0, 1));
        refused("line(3, 2)", NOT, RefusalsTest::rich, x -> x.line(3, 2));
        refused("full line(0, 1)", NOT, RefusalsTest::full, x -> x.line(0, 1));
        refused("full line(9, 0)", NOT, RefusalsTest::full, x -> x.line(9, 0));
        refused("full chance", NOT, RefusalsTest::full, x -> x.chance(0, 1, 0, 1, 2, 0));
        refused("wall(1, 0, 1)", NOT, RefusalsTest::rich, x -> x.wall(1, 0, 1));
        refused("wall(-1, 0, 1)", NOT, RefusalsTest::rich, x -> x.wall(-1, 0, 1));
        refused("full wall(10, 0, 10)", NOT, RefusalsTest::full, x -> x.wall(10, 0, 10));
        refused("full wall(-1, -9, 1)", NOT, RefusalsTest::full, x -> x.wall(-1, -9, 1));
    }

    private static void fullAlone() {
        refused("full line(8, 9)", FULL, RefusalsTest::full, x -> x.line(8, 9));
        refused("full line(9, 3)", FULL, RefusalsTest::full, x -> x.line(9, 3));
        refused("full wall(1, 1, 1)", FULL, RefusalsTest::full, x -> x.wall(1, 1, 1));
        refused("full wall(0, 1, 1)", FULL, RefusalsTest::full, x -> x.wall(0, 1, 1));
        refused("full wall(30, -30, 20)", FULL, RefusalsTest::full, x -> x.wall(30, -30, 20));
    }

    private static void outsideAlone() {
        refused("net(0)", OUTSIDE, RefusalsTest::rich, x -> x.net(0));
        refused("net(11)", OUTSIDE, RefusalsTest::rich, x -> x.net(11));
        refused("node(0, 2, 5)", OUTSIDE, RefusalsTest::rich, x -> x.node(0, 2, 5));
        refused("node(0, 0, 10)", OUTSIDE, RefusalsTest::rich, x -> x.node(0, 0, 10));
        refused("node(0, 1, 0)", OUTSIDE, RefusalsTest::rich, x -> x.node(0, 1, 0));
        refused("purse(0, 5)", OUTSIDE, RefusalsTest::rich, x -> x.purse(0, 5));
        refused("purse(9, 5)", OUTSIDE, RefusalsTest::rich, x -> x.purse(9, 5));
        refused("purse(1, 21)", OUTSIDE, RefusalsTest::rich, x -> x.purse(1, 21));
        refused("purse(8, -1)", OUTSIDE, RefusalsTest::rich, x -> x.purse(8, -1));
        refused("rule(0, 2)", OUTSIDE, RefusalsTest::rich, x -> x.rule(0, 2));
        refused("rule(1, 49)", OUTSIDE, RefusalsTest::rich, x -> x.rule(1, 49));
        refused("rule(1, 1001)", OUTSIDE, RefusalsTest::rich, x -> x.rule(1, 1001));
        refused("rule(2, 1)", OUTSIDE, RefusalsTest::rich, x -> x.rule(2, 1));
        refused("count(5)", OUTSIDE, RefusalsTest::rich, x -> x.count(5));
        refused("plan(0, 5)", OUTSIDE, RefusalsTest::rich, x -> x.plan(0, 5));
        refused("plan(9, 5)", OUTSIDE, RefusalsTest::rich, x -> x.plan(9, 5));
        refused("plan(1, 1024)", OUTSIDE, RefusalsTest::rich, x -> x.plan(1, 1024));
        refused("plan(2, -1)", OUTSIDE, RefusalsTest::rich, x -> x.plan(2, -1));
        refused("play(0, 0)", OUTSIDE, RefusalsTest::rich, x -> x.play(0, 0));
        refused("play(1, 5)", OUTSIDE, RefusalsTest::rich, x -> x.play(1, 5));
        refused("burns(16, 0)", OUTSIDE, RefusalsTest::rich, x -> x.burns(16, 0));
        refused("burns(1, 21)", OUTSIDE, RefusalsTest::rich, x -> x.burns(1, 21));
        refused("best(16, 0)", OUTSIDE, RefusalsTest::rich, x -> x.best(16, 0));
        refused("best(1, 12)", OUTSIDE, RefusalsTest::rich, x -> x.best(1, 12));
        refused("take(0)", OUTSIDE, RefusalsTest::rich, x -> x.take(0));
        refused("take(16)", OUTSIDE, RefusalsTest::rich, x -> x.take(16));
        refused("least(0, 0)", OUTSIDE, RefusalsTest::rich, x -> x.least(0, 0));
        refused("least(1, 91)", OUTSIDE, RefusalsTest::rich, x -> x.least(1, 91));
        refused("live(3, 1, 0)", OUTSIDE, RefusalsTest::rich, x -> x.live(3, 1, 0));
        refused("live(0, 16, 0)", OUTSIDE, RefusalsTest::rich, x -> x.live(0, 16, 0));
        refused("live(0, 1, 3)", OUTSIDE, RefusalsTest::rich, x -> x.live(0, 1, 3));
        refused("share(3, 1, 0)", OUTSIDE, RefusalsTest::rich, x -> x.share(3, 1, 0));
        refused("share(0, 0, 0)", OUTSIDE, RefusalsTest::rich, x -> x.share(0, 0, 0));
        refused("share(0, 1, 2)", OUTSIDE, RefusalsTest::rich, x -> x.share(0, 1, 2));
        refused("worst(3)", OUTSIDE, RefusalsTest::rich, x -> x.worst(3));
        refused("worst(-1)", OUTSIDE, RefusalsTest::rich, x -> x.worst(-1));
        refused("mean(3, 1, 0)", OUTSIDE, RefusalsTest::rich, x -> x.mean(3, 1, 0));
        refused("mean(0, 16, 0)", OUTSIDE, RefusalsTest::rich, x -> x.mean(0, 16, 0));
        refused("mean(0, 1, 2)", OUTSIDE, RefusalsTest::rich, x -> x.mean(0, 1, 2));
        refused("chance(0, 16, ..)", OUTSIDE, RefusalsTest::rich, x -> x.chance(0, 16, 0, 1, 2, 0));
        refused("chance(0, 1, -1, ..)", OUTSIDE, RefusalsTest::rich, x -> x.chance(0, 1, -1, 1, 2, 0));
        refused("chance(.. 1, 7, ..)", OUTSIDE, RefusalsTest::rich, x -> x.chance(0, 1, 0, 1, 7, 0));
        refused("chance(.., -1)", OUTSIDE, RefusalsTest::rich, x -> x.chance(0, 1, 0, 1, 2, -1));
        refused("wall(0, 0, 1)", OUTSIDE, RefusalsTest::rich, x -> x.wall(0, 0, 1));
        refused("wall(31, 0, 1)", OUTSIDE, RefusalsTest::rich, x -> x.wall(31, 0, 1));
        refused("wall(0, -31, 1)", OUTSIDE, RefusalsTest::rich, x -> x.wall(0, -31, 1));
        refused("wall(2, 2, 21)", OUTSIDE, RefusalsTest::rich, x -> x.wall(2, 2, 21));
        refused("board(4)", OUTSIDE, RefusalsTest::rich, x -> x.board(4));
        refused("board(-1)", OUTSIDE, RefusalsTest::rich, x -> x.board(-1));
    }
}
