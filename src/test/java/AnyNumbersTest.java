import java.util.Arrays;

/**
 * Every call with numbers in, at and far out of its bounds, all in all places, among them those at
 * which an int or a shift wraps around: no call throws, and each answers as NaiveNets does.
 */
public final class AnyNumbersTest {
    private static final int LOW = Integer.MIN_VALUE;
    private static final int HIGH = Integer.MAX_VALUE;
    /** One bound or its neighbour each, of any call. */
    private static final int[] MANY = {
        LOW, LOW + 1, -1025, -64, -33, -32, -31, -30, -29, -1, 0, 1, 2, 3, 4, 5, 6, 7, 8, 9, 10, 11, 12, 14, 15, 16,
        17, 19, 20, 21, 30, 31, 32, 33, 49, 50, 51, 63, 64, 65, 90, 91, 999, 1000, 1001, 1022, 1023, 1024, 1 << 30,
        HIGH - 1, HIGH};
    private static final int[] SOME = {
        LOW, -32, -31, -30, -1, 0, 1, 2, 3, 4, 9, 10, 15, 16, 20, 21, 30, 31, 32, 33, 1023, 1 << 30, HIGH};

    private static final Due DUE = new Due("AnyNumbersTest");

    private FireNets mine;
    private NaiveNets naive;
    private int calls;

    private interface One {
        long answer(int a);
    }

    private interface Two {
        long answer(int a, int b);
    }

    private interface Three {
        long answer(int a, int b, int c);
    }

    public static void main(String[] args) {
        AnyNumbersTest test = new AnyNumbersTest();
        test.anew();
        test.ones();
        test.twos();
        test.threes();
        test.chances();
        DUE.close();
    }

    /** Four nodes in a ring, as they are asked 500 times at most. */
    private void anew() {
        mine = new FireNets();
        naive = new NaiveNets();
        calls = 0;
        put("net", mine.net(4), naive.net(4));
        for (int k = 0; k < 4; k++) {
            put("line", mine.line(k, (k + 1) % 4), naive.line(k, (k + 1) % 4));
            put("node", mine.node(k, 0, k + 1), naive.node(k, 0, k + 1));
        }
        put("plan", mine.plan(1, 2), naive.plan(1, 2));
        put("plan", mine.plan(2, 4), naive.plan(2, 4));
        put("wall", mine.wall(1, 0, 1), naive.wall(1, 0, 1));
    }

    private void put(String call, long got, long due) {
        calls++;
        DUE.is(call, got, due);
    }

    private void one(String name, One ours, One theirs) {
        for (int a : MANY) {
            if (calls >= 500) anew();
            put(name + "(" + a + ")", ours.answer(a), theirs.answer(a));
        }
    }

    private void two(String name, Two ours, Two theirs) {
        for (int a : MANY) {
            for (int b : MANY) {
                if (calls >= 500) anew();
                put(name + "(" + a + ", " + b + ")", ours.answer(a, b), theirs.answer(a, b));
            }
        }
    }

    private void three(String name, Three ours, Three theirs) {
        for (int a : SOME) {
            for (int b : SOME) {
                for (int c : SOME) {
                    if (calls >= 500) anew();
                    put(name + "(" + a + ", " + b + ", " + c + ")", ours.answer(a, b, c), theirs.answer(a, b, c));
                }
            }
        }
    }

    private void ones() {
        one("count", a -> mine.count(a), a -> naive.count(a));
        one("take", a -> mine.take(a), a -> naive.take(a));
        one("worst", a -> mine.worst(a), a -> naive.worst(a));
        one("board", a -> mine.board(a), a -> naive.board(a));
        one("net", a -> mine.net(a), a -> naive.net(a));
        anew();
    }

    private void twos() {
        two("play", (a, b) -> mine.play(a, b), (a, b) -> naive.play(a, b));
        two("burns", (a, b) -> mine.burns(a, b), (a, b) -> naive.burns(a, b));
        two("best", (a, b) -> mine.best(a, b), (a, b) -> naive.best(a, b));
        two("least", (a, b) -> mine.least(a, b), (a, b) -> naive.least(a, b));
        two("plan", (a, b) -> mine.plan(a, b), (a, b) -> naive.plan(a, b));
        two("purse", (a, b) -> mine.purse(a, b), (a, b) -> naive.purse(a, b));
        two("rule", (a, b) -> mine.rule(a, b), (a, b) -> naive.rule(a, b));
        two("line", (a, b) -> mine.line(a, b), (a, b) -> naive.line(a, b));
        anew();
    }

    private void threes() {
        three("live", (a, b, c) -> mine.live(a, b, c), (a, b, c) -> naive.live(a, b, c));
        three("share", (a, b, c) -> mine.share(a, b, c), (a, b, c) -> naive.share(a, b, c));
        three("mean", (a, b, c) -> mine.mean(a, b, c), (a, b, c) -> naive.mean(a, b, c));
        three("node", (a, b, c) -> mine.node(a, b, c), (a, b, c) -> naive.node(a, b, c));
        three("wall", (a, b, c) -> mine.wall(a, b, c), (a, b, c) -> naive.wall(a, b, c));
        anew();
    }

    /** Of a call that is answered any two numbers become others. */
    private void chances() {
        int[] base = {2, 1, 2, 1, 3, 1};
        for (int i = 0; i < base.length; i++) {
            for (int j = i + 1; j < base.length; j++) {
                for (int a : MANY) for (int b : MANY) chance(base, i, a, j, b);
            }
        }
    }

    private void chance(int[] base, int i, int a, int j, int b) {
        if (calls >= 500) anew();
        int[] v = base.clone();
        v[i] = a;
        v[j] = b;
        put("chance" + Arrays.toString(v), mine.chance(v[0], v[1], v[2], v[3], v[4], v[5]),
                naive.chance(v[0], v[1], v[2], v[3], v[4], v[5]));
    }
}
