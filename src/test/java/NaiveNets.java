import java.math.BigInteger;
import java.util.ArrayList;
import java.util.Arrays;
import java.util.HashMap;
import java.util.HashSet;
import java.util.List;
import java.util.Map;
import java.util.Set;
import java.util.TreeSet;

/**
 * The document once more, written for the tests in another way: sets are java.util's, every way is
 * tried out, every pattern of open lines is looked at. Slow, and free of the class that is tested.
 */
final class NaiveNets {
    static final int NONE = -1, UNKNOWN = -1001, OUTSIDE = -1002, NOT = -1003, FULL = -1004;

    private int n = 1;
    private final List<int[]> lines = new ArrayList<>();
    private int[] worth = {1};
    private int[] price = {1};
    private final int[] purses = {1, 1, 1, 1, 1, 1, 1, 1};
    private boolean keeping = false;
    private int bound = 500;
    private int[] plan = new int[8];
    private final List<int[]> walls = new ArrayList<>();

    // ---- nets

    int net(int nodes) {
        if (nodes < 1 || nodes > 10) return OUTSIDE;
        n = nodes;
        lines.clear();
        worth = new int[n];
        price = new int[n];
        Arrays.fill(worth, 1);
        Arrays.fill(price, 1);
        plan = new int[8];
        return 1;
    }

    private boolean known(int k) {
        return k >= 0 && k < n;
    }

    private boolean joined(int a, int b) {
        for (int[] line : lines) {
            if (line[0] == a && line[1] == b || line[0] == b && line[1] == a) return true;
        }
        return false;
    }

    int line(int a, int b) {
        if (!known(a)) return UNKNOWN;
        if (!known(b)) return UNKNOWN;
        if (a == b) return OUTSIDE;
        if (joined(a, b)) return NOT;
        if (lines.size() == 24) return FULL;
        lines.add(new int[] {a, b});
        return lines.size() - 1;
    }

    int node(int k, int what, int v) {
        if (!known(k)) return UNKNOWN;
        if (what < 0 || what > 1 || v > 9 || v < what) return OUTSIDE;
        int[] row = what == 0 ? worth : price;
        int was = row[k];
        row[k] = v;
        return was;
    }

    int purse(int tick, int v) {
        if (tick < 1 || tick > 8 || v < 0 || v > 20) return OUTSIDE;
        int was = purses[tick - 1];
        purses[tick - 1] = v;
        return was;
    }

    int rule(int what, int v) {
        int was;
        if (what == 0) {
            if (v != 0 && v != 1) return OUTSIDE;
            was = keeping ? 1 : 0;
            keeping = v == 1;
            return was;
        }
        if (what != 1 || v < 50 || v > 1000) return OUTSIDE;
        was = bound;
        bound = v;
        return was;
    }

    int count(int what) {
        if (what == 0) return n;
        if (what == 1) return lines.size();
        if (what == 2) return Arrays.stream(worth).sum();
        if (what == 3) return walls.size();
        if (what != 4) return OUTSIDE;
        Map<Integer, Integer> told = new HashMap<>();
        for (int[] wall : walls) told.merge(wall[2], 1, Integer::sum);
        return told.values().stream().max(Integer::compare).orElse(0);
    }

    // ---- fires

    private Set<Integer> members(int set) {
        Set<Integer> members = new TreeSet<>();
        for (int k = 0; k < 31; k++) if ((set & 1 << k) != 0) members.add(k);
        return members;
    }

    private int number(Set<Integer> members) {
        int set = 0;
        for (int k : members) set += 1 << k;
        return set;
    }

    private boolean start(int fire) {
        return fire >= 1 && fire < 1 << n;
    }

    private Set<Integer> caught(Set<Integer> burning, Set<Integer> guards) {
        Set<Integer> caught = new TreeSet<>();
        for (int[] line : lines) {
            if (burning.contains(line[0])) caught.add(line[1]);
            if (burning.contains(line[1])) caught.add(line[0]);
        }
        caught.removeAll(burning);
        caught.removeAll(guards);
        return caught;
    }

    private int priceOf(Set<Integer> set) {
        int sum = 0;
        for (int k : set) sum += price[k];
        return sum;
    }

    private int saved(Set<Integer> burning) {
        int sum = 0;
        for (int k = 0; k < n; k++) if (!burning.contains(k)) sum += worth[k];
        return sum;
    }

    private boolean lawful(Set<Integer> set, Set<Integer> burning, Set<Integer> guards, int money) {
        for (int k : set) {
            if (!known(k) || burning.contains(k) || guards.contains(k)) return false;
        }
        return priceOf(set) <= money;
    }

    private static int moneyOf(int[] purses, int tick) {
        return tick > 8 ? purses[7] : purses[tick - 1];
    }

    // ---- plans

    int plan(int tick, int set) {
        if (tick < 1 || tick > 8 || set < 0 || set > 1023) return OUTSIDE;
        int was = plan[tick - 1];
        plan[tick - 1] = set;
        return was;
    }

    private final List<Integer> history = new ArrayList<>();

    /** What a PLAY answers to 0 .. 4; what burns behind each TICK is kept beside it. */
    private int[] played(int fire) {
        Set<Integer> burning = members(fire);
        Set<Integer> guards = new TreeSet<>();
        int money = 0;
        int cost = 0;
        history.clear();
        history.add(fire);
        for (int tick = 1;; tick++) {
            money = moneyOf(purses, tick) + (keeping ? money : 0);
            Set<Integer> set = tick > 8 ? new TreeSet<>() : members(plan[tick - 1]);
            if (!lawful(set, burning, guards, money)) {
                return new int[] {NONE, number(burning), number(guards), tick, cost};
            }
            guards.addAll(set);
            cost += priceOf(set);
            money -= priceOf(set);
            Set<Integer> caught = caught(burning, guards);
            burning.addAll(caught);
            history.add(number(burning));
            if (caught.isEmpty()) {
                return new int[] {saved(burning), number(burning), number(guards), tick, cost};
            }
        }
    }

    int play(int fire, int what) {
        if (!start(fire) || what < 0 || what > 4) return OUTSIDE;
        return played(fire)[what];
    }

    int burns(int fire, int tick) {
        if (!start(fire) || tick < 0 || tick > 20) return OUTSIDE;
        played(fire);
        return history.get(Math.min(tick, history.size() - 1));
    }

    /** THE BEST as best() tells it, 0 .. 11. */
    private final int[] found = new int[12];
    private int[] seekPurses;

    private int[] sought(int fire, int[] from) {
        Arrays.fill(found, 0);
        found[0] = NONE;
        seekPurses = from;
        ways(1, members(fire), new TreeSet<>(), 0, new int[8]);
        return found;
    }

    private void ways(int tick, Set<Integer> burning, Set<Integer> guards, int left, int[] way) {
        int money = moneyOf(seekPurses, tick) + (keeping ? left : 0);
        for (int set = 0; set < 1 << n; set++) {
            Set<Integer> put = members(set);
            if (!lawful(put, burning, guards, money)) continue;
            if (found[1] == bound) found[2] = 1;
            if (found[2] == 1) return;
            found[1]++;
            int[] now = way.clone();
            now[tick - 1] = set;
            Set<Integer> guarded = new TreeSet<>(guards);
            guarded.addAll(put);
            Set<Integer> fire = new TreeSet<>(burning);
            Set<Integer> caught = caught(fire, guarded);
            fire.addAll(caught);
            if (caught.isEmpty()) end(tick, fire, now);
            else if (tick < 8) ways(tick + 1, fire, guarded, money - priceOf(put), now);
            else runOn(fire, guarded, now);
        }
    }

    private void runOn(Set<Integer> burning, Set<Integer> guards, int[] way) {
        for (int tick = 9;; tick++) {
            Set<Integer> caught = caught(burning, guards);
            burning.addAll(caught);
            if (caught.isEmpty()) {
                end(tick, burning, way);
                return;
            }
        }
    }

    private void end(int tick, Set<Integer> burning, int[] way) {
        if (saved(burning) <= found[0]) return;
        found[0] = saved(burning);
        found[3] = tick;
        System.arraycopy(way, 0, found, 4, 8);
    }

    int best(int fire, int what) {
        if (!start(fire) || what < 0 || what > 11) return OUTSIDE;
        return sought(fire, purses)[what];
    }

    int take(int fire) {
        if (!start(fire)) return OUTSIDE;
        plan = Arrays.copyOfRange(sought(fire, purses), 4, 12);
        return found[0];
    }

    int least(int fire, int wanted) {
        if (!start(fire) || wanted < 0 || wanted > 90) return OUTSIDE;
        for (int v = 0; v <= 20; v++) {
            int[] flat = new int[8];
            Arrays.fill(flat, v);
            if (sought(fire, flat)[0] >= wanted) return v;
        }
        return NONE;
    }

    // ---- rules

    private int rank(int rule, int k, Set<Integer> burning, Set<Integer> guards) {
        if (rule == 0) return -k;
        if (rule == 1) return worth[k];
        int free = 0;
        for (int other = 0; other < n; other++) {
            if (joined(k, other) && !burning.contains(other) && !guards.contains(other)) free++;
        }
        return free;
    }

    private int[] lived(int rule, int fire) {
        Set<Integer> burning = members(fire);
        Set<Integer> guards = new TreeSet<>();
        int money = 0;
        for (int tick = 1;; tick++) {
            money = moneyOf(purses, tick) + (keeping ? money : 0);
            while (true) {
                List<Integer> able = new ArrayList<>();
                for (int k : caught(burning, guards)) if (price[k] <= money) able.add(k);
                if (able.isEmpty()) break;
                able.sort((a, b) -> {
                    int ranks = rank(rule, b, burning, guards) - rank(rule, a, burning, guards);
                    return ranks != 0 ? ranks : a - b;
                });
                guards.add(able.get(0));
                money -= price[able.get(0)];
            }
            Set<Integer> caught = caught(burning, guards);
            burning.addAll(caught);
            if (caught.isEmpty()) return new int[] {saved(burning), number(guards), tick};
        }
    }

    int live(int rule, int fire, int what) {
        if (rule < 0 || rule > 2 || !start(fire) || what < 0 || what > 2) return OUTSIDE;
        return lived(rule, fire)[what];
    }

    private static long part(BigInteger upper, BigInteger lower, int what) {
        BigInteger common = upper.gcd(lower);
        return (what == 0 ? upper : lower).divide(common).longValueExact();
    }

    private static BigInteger big(long v) {
        return BigInteger.valueOf(v);
    }

    int share(int rule, int fire, int what) {
        if (rule < 0 || rule > 2 || !start(fire) || what < 0 || what > 1) return OUTSIDE;
        int whole = sought(fire, purses)[0];
        if (whole == 0) return 1;
        return (int) part(big(lived(rule, fire)[0]), big(whole), what);
    }

    int worst(int rule) {
        if (rule < 0 || rule > 2) return OUTSIDE;
        int worst = 0;
        for (int k = 1; k < n; k++) {
            long here = (long) share(rule, 1 << k, 0) * share(rule, 1 << worst, 1);
            long there = (long) share(rule, 1 << worst, 0) * share(rule, 1 << k, 1);
            if (here < there) worst = k;
        }
        return worst;
    }

    int mean(int rule, int starts, int what) {
        if (rule < 0 || rule > 2 || !start(starts) || what < 0 || what > 1) return OUTSIDE;
        int sum = 0;
        for (int k : members(starts)) sum += lived(rule, 1 << k)[0];
        return (int) part(big(sum), big(members(starts).size()), what);
    }

    // ---- chances

    long chance(int k, int fire, int guarded, int a, int b, int what) {
        if (!known(k)) return UNKNOWN;
        if (!start(fire) || guarded < 0 || guarded >= 1 << n) return OUTSIDE;
        if (b < 1 || b > 6 || a < 0 || a > b || what < 0 || what > 1) return OUTSIDE;
        if (lines.size() > 12) return NOT;
        Set<Integer> barred = members(guarded);
        barred.removeAll(members(fire));
        BigInteger sum = BigInteger.ZERO;
        for (int open = 0; open < 1 << lines.size(); open++) {
            if (!reached(open, fire, barred).contains(k)) continue;
            BigInteger ways = BigInteger.ONE;
            for (int i = 0; i < lines.size(); i++) {
                ways = ways.multiply(big((open & 1 << i) != 0 ? a : b - a));
            }
            sum = sum.add(ways);
        }
        return part(sum, big(b).pow(lines.size()), what);
    }

    private Set<Integer> reached(int open, int fire, Set<Integer> barred) {
        Set<Integer> reached = members(fire);
        for (boolean more = true; more;) {
            more = false;
            for (int i = 0; i < lines.size(); i++) {
                int a = lines.get(i)[0];
                int b = lines.get(i)[1];
                if ((open & 1 << i) == 0 || reached.contains(a) == reached.contains(b)) continue;
                int beyond = reached.contains(a) ? b : a;
                if (!barred.contains(beyond)) more |= reached.add(beyond);
            }
        }
        return reached;
    }

    // ---- the board

    int wall(int x, int y, int tick) {
        if (Math.abs((long) x) > 30 || Math.abs((long) y) > 30) return OUTSIDE;
        if (x == 0 && y == 0 || tick < 1 || tick > 20) return OUTSIDE;
        for (int[] wall : walls) if (wall[0] == x && wall[1] == y) return NOT;
        if (walls.size() == 40) return FULL;
        walls.add(new int[] {x, y, tick});
        return walls.size();
    }

    int raze() {
        int was = walls.size();
        walls.clear();
        return was;
    }

    int board(int what) {
        if (what < 0 || what > 3) return OUTSIDE;
        Set<List<Integer>> burning = new HashSet<>();
        Set<List<Integer>> guards = new HashSet<>();
        burning.add(List.of(0, 0));
        int lost = 0;
        int shut = NONE;
        for (int tick = 1; tick <= 24 && shut == NONE; tick++) {
            for (int[] wall : walls) {
                if (wall[2] != tick) continue;
                if (burning.contains(List.of(wall[0], wall[1]))) lost++;
                else guards.add(List.of(wall[0], wall[1]));
            }
            Set<List<Integer>> next = new HashSet<>(burning);
            for (List<Integer> square : burning) {
                int x = square.get(0);
                int y = square.get(1);
                next.add(List.of(x + 1, y));
                next.add(List.of(x - 1, y));
                next.add(List.of(x, y + 1));
                next.add(List.of(x, y - 1));
            }
            next.removeAll(guards);
            if (next.size() == burning.size()) shut = tick;
            burning = next;
        }
        int far = 0;
        for (List<Integer> square : burning) {
            far = Math.max(far, Math.abs(square.get(0)) + Math.abs(square.get(1)));
        }
        return new int[] {shut, burning.size(), lost, far}[what];
    }
}
