import java.util.Random;

/** Runs of calls drawn from a seed, on the class and on NaiveNets: each answer must be the same. */
public final class RandomRunsTest {
    private static final int[] ODD = {
        Integer.MIN_VALUE, Integer.MAX_VALUE, -1, -2, 0, 1, 2, 7, 8, 9, 10, 11, 20, 21, 31, 32, 1023, 1024, 1 << 31
    };

    private final Random random;
    private final Due due;
    private final FireNets mine = new FireNets();
    private final NaiveNets naive = new NaiveNets();
    private final StringBuilder told = new StringBuilder();
    private int nodes = 1;
    private int calls;

    private RandomRunsTest(long seed, Due due) {
        random = new Random(seed);
        this.due = due;
        told.append("seed ").append(seed).append(':');
    }

    public static void main(String[] args) {
        Due due = new Due("RandomRunsTest");
        int runs = args.length > 0 ? Integer.parseInt(args[0]) : 160;
        for (int seed = 0; seed < runs; seed++) new RandomRunsTest(seed, due).run();
        due.close();
    }

    private void run() {
        net();
        for (int i = random.nextInt(16); i > 0; i--) line();
        for (int i = random.nextInt(12); i > 0; i--) node();
        for (int i = random.nextInt(9); i > 0; i--) purse();
        // An object answers for 512 calls; the longest of these takes a dozen.
        while (calls < 500) call();
    }

    /** A number within bounds, seldom one that is odd. */
    private int some(int from, int to) {
        if (random.nextInt(60) == 0) return ODD[random.nextInt(ODD.length)];
        if (random.nextInt(40) == 0) return random.nextBoolean() ? from - 1 : to + 1;
        return from + random.nextInt(to - from + 1);
    }

    private int fire() {
        return random.nextInt(3) == 0 ? some(1, (1 << nodes) - 1) : 1 << some(0, nodes - 1);
    }

    private void same(String call, long got, long want) {
        calls++;
        if (told.length() < 20000) told.append(' ').append(call).append(';');
        if (got != want) due.is(told.toString(), got, want);
        else due.is(call, got, want);
    }

    private static String call(String name, int... args) {
        StringBuilder text = new StringBuilder(name).append('(');
        for (int i = 0; i < args.length; i++) text.append(i == 0 ? "" : ", ").append(args[i]);
        return text.append(')').toString();
    }

    private void net() {
        int n = random.nextInt(3) == 0 ? some(1, 10) : some(5, 10);
        if (n >= 1 && n <= 10) nodes = n;
        same(call("net", n), mine.net(n), naive.net(n));
    }

    private void line() {
        int a = some(0, nodes - 1);
        int b = some(0, nodes - 1);
        same(call("line", a, b), mine.line(a, b), naive.line(a, b));
    }

    private void node() {
        int k = some(0, nodes - 1);
        int what = some(0, 1);
        int v = random.nextInt(3) == 0 ? some(0, 9) : some(0, 3);
        same(call("node", k, what, v), mine.node(k, what, v), naive.node(k, what, v));
    }

    private void purse() {
        int tick = some(1, 8);
        int v = random.nextInt(4) == 0 ? some(0, 20) : some(0, 3);
        same(call("purse", tick, v), mine.purse(tick, v), naive.purse(tick, v));
    }

    private void rule() {
        int what = some(0, 1);
        int v = what == 0 ? some(0, 1) : some(50, 1000);
        same(call("rule", what, v), mine.rule(what, v), naive.rule(what, v));
    }

    private void count() {
        int what = some(0, 4);
        same(call("count", what), mine.count(what), naive.count(what));
    }

    private void plan() {
        int tick = random.nextBoolean() ? some(1, 3) : some(1, 8);
        int set = random.nextInt(4) == 0 ? some(0, 1023) : random.nextInt(3) == 0 ? 0 : 1 << some(0, 9);
        same(call("plan", tick, set), mine.plan(tick, set), naive.plan(tick, set));
    }

    private void playWhole() {
        int fire = fire();
        for (int what = -1; what <= 5; what++) {
            same(call("play", fire, what), mine.play(fire, what), naive.play(fire, what));
        }
        int tick = some(0, 20);
        for (int t : new int[] {0, 1, 2, 3, tick}) {
            same(call("burns", fire, t), mine.burns(fire, t), naive.burns(fire, t));
        }
    }

    private void best() {
        int fire = fire();
        for (int what = 0; what < 3; what++) {
            int one = random.nextInt(2) == 0 ? what : some(0, 11);
            same(call("best", fire, one), mine.best(fire, one), naive.best(fire, one));
        }
    }

    private void take() {
        int fire = fire();
        same(call("take", fire), mine.take(fire), naive.take(fire));
        for (int what = 0; what < 4; what++) {
            same(call("play", fire, what), mine.play(fire, what), naive.play(fire, what));
        }
    }

    private void least() {
        int fire = fire();
        int wanted = random.nextInt(4) == 0 ? some(0, 90) : some(0, nodes * 2);
        same(call("least", fire, wanted), mine.least(fire, wanted), naive.least(fire, wanted));
    }

    private void live() {
        int rule = some(0, 2);
        int fire = fire();
        for (int what = -1; what <= 3; what++) {
            same(call("live", rule, fire, what), mine.live(rule, fire, what), naive.live(rule, fire, what));
        }
    }

    private void share() {
        int rule = some(0, 2);
        int fire = fire();
        int what = some(0, 1);
        same(call("share", rule, fire, what), mine.share(rule, fire, what), naive.share(rule, fire, what));
    }

    private void worst() {
        int rule = some(0, 2);
        same(call("worst", rule), mine.worst(rule), naive.worst(rule));
    }

    private void mean() {
        int rule = some(0, 2);
        int starts = some(1, (1 << nodes) - 1);
        int what = some(0, 1);
        same(call("mean", rule, starts, what), mine.mean(rule, starts, what), naive.mean(rule, starts, what));
    }

    private void chance() {
        int k = some(0, nodes - 1);
        int fire = fire();
        int guarded = random.nextBoolean() ? 0 : some(0, (1 << nodes) - 1);
        int b = some(1, 6);
        int a = some(0, Math.max(0, Math.min(b, 6)));
        int what = some(0, 1);
        same(call("chance", k, fire, guarded, a, b, what), mine.chance(k, fire, guarded, a, b, what),
                naive.chance(k, fire, guarded, a, b, what));
    }

    /** Mostly squares near the fire, so that it is shut in now and then. */
    private void wall() {
        int reach = random.nextInt(8) == 0 ? 30 : 3;
        int x = some(-reach, reach);
        int y = some(-reach, reach);
        int tick = random.nextInt(3) == 0 ? some(1, 20) : some(1, 4);
        same(call("wall", x, y, tick), mine.wall(x, y, tick), naive.wall(x, y, tick));
    }

    private void board() {
        for (int what = -1; what <= 4; what++) {
            same(call("board", what), mine.board(what), naive.board(what));
        }
    }

    private void call() {
        switch (random.nextInt(40)) {
            case 0: net(); break;
            case 1: case 2: case 3: case 4: case 5: line(); break;
            case 6: case 7: case 8: node(); break;
            case 9: case 10: purse(); break;
            case 11: rule(); break;
            case 12: count(); break;
            case 13: case 14: case 15: case 16: plan(); break;
            case 17: case 18: case 19: playWhole(); break;
            case 20: case 21: best(); break;
            case 22: take(); break;
            case 23: least(); break;
            case 24: case 25: case 26: live(); break;
            case 27: share(); break;
            case 28: worst(); break;
            case 29: case 30: mean(); break;
            case 31: chance(); break;
            case 32: if (random.nextInt(6) == 0) same("raze()", mine.raze(), naive.raze()); break;
            case 33: if (random.nextInt(3) == 0) board(); break;
            default: wall(); break;
        }
    }
}
