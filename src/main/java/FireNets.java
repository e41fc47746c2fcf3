import java.util.Arrays;

/**
 * Fire on nets: plans played and judged, the best one sought, the least purse, rules that put
 * guards as they go, chances, and walls on an endless board. A SET of NODES is a whole number,
 * bit k for NODE k.
 */
public final class FireNets {
    public static final int NONE = -1, UNKNOWN = -1001, OUTSIDE = -1002, NOT = -1003, FULL = -1004;

    private static final int MOST_NODES = 10;
    private static final int MOST_LINES = 24;
    private static final int MOST_CHANCY_LINES = 12;
    private static final int MOST_SET = 1023;
    private static final int MOST_WORTH = 9;
    private static final int MOST_PRICE = 9;
    private static final int MOST_WANTED = 90;
    private static final int MOST_SIDES = 6;
    /** TICKS that have a PURSE and a SET of THE PLAN of their own. */
    private static final int TICKS = 8;
    private static final int MOST_PURSE = 20;
    private static final int LEAST_BOUND = 50;
    private static final int FIRST_BOUND = 500;
    private static final int MOST_BOUND = 1000;
    /** No fire on ten NODES lasts longer: each TICK but its last one takes a NODE. */
    private static final int LAST_TICK = 20;
    private static final int RULES = 3;
    private static final int MOST_SQUARES = 40;
    private static final int FARTHEST_SQUARE = 30;
    private static final int LAST_WALL_TICK = 20;
    private static final int LAST_BOARD_TICK = 24;

    private final Net theNet;
    private final Purses thePurses;
    private final int[] thePlan;
    private final Course theCourse;
    private final Search theSearch;
    private final Chances theChances;
    private final Board theBoard;
    private int bound;

    public FireNets() {
        theNet = new Net();
        thePurses = new Purses();
        thePlan = new int[TICKS];
        theCourse = new Course();
        theSearch = new Search();
        theChances = new Chances();
        theBoard = new Board();
        bound = FIRST_BOUND;
    }

    // ---- nets

    public int net(int n) {
        if (!within(n, 1, MOST_NODES)) return OUTSIDE;
        theNet.renew(n);
        Arrays.fill(thePlan, 0);
        return 1;
    }

    public int line(int a, int b) {
        if (!theNet.has(a) || !theNet.has(b)) return UNKNOWN;
        if (a == b) return OUTSIDE;
        if (theNet.joined(a, b)) return NOT;
        if (theNet.lines >= MOST_LINES) return FULL;
        return theNet.join(a, b);
    }

    public int node(int k, int what, int v) {
        if (!theNet.has(k)) return UNKNOWN;
        if (what == 0 && within(v, 0, MOST_WORTH)) return swap(theNet.worth, k, v);
        if (what == 1 && within(v, 1, MOST_PRICE)) return swap(theNet.price, k, v);
        return OUTSIDE;
    }

    public int purse(int tick, int v) {
        if (!within(tick, 1, TICKS) || !within(v, 0, MOST_PURSE)) return OUTSIDE;
        return swap(thePurses.own, tick - 1, v);
    }

    public int rule(int what, int v) {
        if (what == 0 && within(v, 0, 1)) {
            int before = thePurses.keeping;
            thePurses.keeping = v;
            return before;
        }
        if (what == 1 && within(v, LEAST_BOUND, MOST_BOUND)) {
            int before = bound;
            bound = v;
            return before;
        }
        return OUTSIDE;
    }

    public int count(int what) {
        switch (what) {
            case 0: return theNet.nodes;
            case 1: return theNet.lines;
            case 2: return theNet.worthOf(theNet.all());
            case 3: return theBoard.squares;
            case 4: return theBoard.needed();
            default: return OUTSIDE;
        }
    }

    // ---- plans

    public int plan(int tick, int set) {
        if (!within(tick, 1, TICKS) || !within(set, 0, MOST_SET)) return OUTSIDE;
        return swap(thePlan, tick - 1, set);
    }

    public int play(int fire, int what) {
        if (!theNet.isStart(fire) || !within(what, 0, 4)) return OUTSIDE;
        runPlan(fire, LAST_TICK);
        switch (what) {
            case 0: return theCourse.bad ? NONE : theNet.savedFrom(theCourse.burning);
            case 1: return theCourse.burning;
            case 2: return theCourse.guards;
            case 3: return theCourse.tick;
            default: return theCourse.cost;
        }
    }

    public int burns(int fire, int tick) {
        if (!theNet.isStart(fire) || !within(tick, 0, LAST_TICK)) return OUTSIDE;
        runPlan(fire, tick);
        return theCourse.burning;
    }

    public int best(int fire, int what) {
        if (!theNet.isStart(fire) || !within(what, 0, 3 + TICKS)) return OUTSIDE;
        seekBest(fire);
        switch (what) {
            case 0: return theSearch.saved;
            case 1: return theSearch.looks;
            case 2: return theSearch.spent ? 1 : 0;
            case 3: return theSearch.over;
            default: return theSearch.chosen(what - 3);
        }
    }

    public int take(int fire) {
        if (!theNet.isStart(fire)) return OUTSIDE;
        seekBest(fire);
        for (int i = 0; i < TICKS; i++) thePlan[i] = theSearch.chosen(i + 1);
        return theSearch.saved;
    }

    public int least(int fire, int wanted) {
        if (!theNet.isStart(fire) || !within(wanted, 0, MOST_WANTED)) return OUTSIDE;
        theSearch.purses.keeping = thePurses.keeping;
        // Each v is sought anew: where a search is SPENT, more in the PURSE may save less.
        for (int v = 0; v <= MOST_PURSE; v++) {
            Arrays.fill(theSearch.purses.own, v);
            theSearch.run(theNet, bound, fire);
            if (theSearch.saved >= wanted) return v;
        }
        return NONE;
    }

    // ---- rules

    public int live(int rule, int fire, int what) {
        if (!isRule(rule) || !theNet.isStart(fire) || !within(what, 0, 2)) return OUTSIDE;
        runRule(rule, fire);
        switch (what) {
            case 0: return theNet.savedFrom(theCourse.burning);
            case 1: return theCourse.guards;
            default: return theCourse.tick;
        }
    }

    public int share(int rule, int fire, int what) {
        if (!isRule(rule) || !theNet.isStart(fire) || !within(what, 0, 1)) return OUTSIDE;
        int part = savedByRule(rule, fire);
        seekBest(fire);
        if (theSearch.saved <= 0) return 1;
        return (int) fractionPart(part, theSearch.saved, what);
    }

    public int worst(int rule) {
        if (!isRule(rule)) return OUTSIDE;
        int worst = 0;
        int upper = 0;
        int lower = 0;
        for (int k = 0; k < theNet.nodes; k++) {
            int part = savedByRule(rule, 1 << k);
            seekBest(1 << k);
            int whole = theSearch.saved;
            if (whole <= 0) {
                part = 1;
                whole = 1;
            }
            if (k == 0 || part * lower < upper * whole) {
                worst = k;
                upper = part;
                lower = whole;
            }
        }
        return worst;
    }

    public int mean(int rule, int starts, int what) {
        if (!isRule(rule) || !theNet.isStart(starts) || !within(what, 0, 1)) return OUTSIDE;
        int sum = 0;
        for (int k = 0; k < MOST_NODES; k++) {
            if (holds(starts, k)) sum += savedByRule(rule, 1 << k);
        }
        return (int) fractionPart(sum, Integer.bitCount(starts), what);
    }

    // ---- chances

    public long chance(int k, int fire, int guarded, int a, int b, int what) {
        if (!theNet.has(k)) return UNKNOWN;
        if (!theNet.isStart(fire) || !within(guarded, 0, theNet.all())) return OUTSIDE;
        if (!within(b, 1, MOST_SIDES) || !within(a, 0, b) || !within(what, 0, 1)) return OUTSIDE;
        if (theNet.lines > MOST_CHANCY_LINES) return NOT;
        theChances.lay(theNet, guarded & ~fire, a, b);
        return fractionPart(theChances.waysTo(k, fire), theChances.allWays(), what);
    }

    // ---- the board

    public int wall(int x, int y, int tick) {
        if (!within(x, -FARTHEST_SQUARE, FARTHEST_SQUARE)) return OUTSIDE;
        if (!within(y, -FARTHEST_SQUARE, FARTHEST_SQUARE)) return OUTSIDE;
        if (x == 0 && y == 0 || !within(tick, 1, LAST_WALL_TICK)) return OUTSIDE;
        if (theBoard.isWall(x, y)) return NOT;
        if (theBoard.squares >= MOST_SQUARES) return FULL;
        return theBoard.add(x, y, tick);
    }

    public int raze() {
        int before = theBoard.squares;
        theBoard.squares = 0;
        return before;
    }

    public int board(int what) {
        if (!within(what, 0, 3)) return OUTSIDE;
        theBoard.burn();
        switch (what) {
            case 0: return theBoard.shutIn;
            case 1: return theBoard.burnt();
            case 2: return theBoard.lost;
            default: return theBoard.reach();
        }
    }

    // ---- what several calls need

    private static boolean within(int v, int from, int to) {
        return v >= from && v <= to;
    }

    private static boolean isRule(int rule) {
        return within(rule, 0, RULES - 1);
    }

    private static boolean holds(int set, int k) {
        return (set >> k & 1) != 0;
    }

    /** Puts v into a row: what was there. */
    private static int swap(int[] row, int at, int v) {
        if (at < 0 || at >= row.length) return NONE;
        int before = row[at];
        row[at] = v;
        return before;
    }

    /** The upper (0) or the lower number (1) of a fraction in least terms. */
    private static long fractionPart(long upper, long lower, int what) {
        long part = what == 0 ? upper : lower;
        long common = commonDivisor(upper, lower);
        return common == 0 ? part : part / common;
    }

    private static long commonDivisor(long a, long b) {
        long high = a;
        long low = b;
        // Of numbers below 2^63 Euclid's way ends within some ninety steps.
        for (int step = 0; step < 100 && low != 0; step++) {
            long rest = high % low;
            high = low;
            low = rest;
        }
        return high;
    }

    /** The PLAY of THE PLAN, till it ends or a TICK is by. */
    private void runPlan(int fire, int last) {
        theCourse.begin(fire);
        for (int tick = 1; tick <= last && !theCourse.ended(); tick++) {
            theCourse.openTick(thePurses);
            theCourse.putSet(theNet, tick <= TICKS ? thePlan[tick - 1] : 0);
            theCourse.spread(theNet);
        }
    }

    private void runRule(int rule, int fire) {
        theCourse.begin(fire);
        for (int tick = 1; tick <= LAST_TICK && !theCourse.ended(); tick++) {
            theCourse.openTick(thePurses);
            theCourse.putByRule(theNet, rule);
            theCourse.spread(theNet);
        }
    }

    private int savedByRule(int rule, int fire) {
        runRule(rule, fire);
        return theNet.savedFrom(theCourse.burning);
    }

    private void seekBest(int fire) {
        theSearch.purses.copy(thePurses);
        theSearch.run(theNet, bound, fire);
    }

    /** NODES with their WORTHS and PRICES, and the LINES between them. */
    private static final class Net {
        int nodes;
        int lines;
        final int[] worth;
        final int[] price;
        /** Of a NODE the SET of those that a LINE joins to it. */
        private final int[] near;
        /** Of a LINE its two NODES, as a SET. */
        private final int[] ends;

        Net() {
            worth = new int[MOST_NODES];
            price = new int[MOST_NODES];
            near = new int[MOST_NODES];
            ends = new int[MOST_LINES];
            renew(1);
        }

        void renew(int n) {
            nodes = n;
            lines = 0;
            Arrays.fill(worth, 1);
            Arrays.fill(price, 1);
            Arrays.fill(near, 0);
        }

        boolean has(int k) {
            return within(k, 0, nodes - 1);
        }

        int all() {
            return (1 << nodes) - 1;
        }

        /** Whether a fire may begin in a SET. */
        boolean isStart(int set) {
            return within(set, 1, all());
        }

        boolean joined(int a, int b) {
            return holds(nearTo(a), b);
        }

        int nearTo(int k) {
            return k < 0 || k >= MOST_NODES ? 0 : near[k];
        }

        int endsOf(int line) {
            return line < 0 || line >= MOST_LINES ? 0 : ends[line];
        }

        /** Joins two NODES: the LINE's number. */
        int join(int a, int b) {
            if (lines >= MOST_LINES || !has(a) || !has(b)) return NONE;
            near[a] |= 1 << b;
            near[b] |= 1 << a;
            ends[lines] = 1 << a | 1 << b;
            lines++;
            return lines - 1;
        }

        int worthOf(int set) {
            return sumOver(worth, set);
        }

        int priceOf(int set) {
            return sumOver(price, set);
        }

        private static int sumOver(int[] row, int set) {
            int sum = 0;
            for (int k = 0; k < row.length; k++) {
                sum += row[k] * (set >> k & 1);
            }
            return sum;
        }

        int savedFrom(int burning) {
            return sumOver(worth, all() & ~burning);
        }

        /** NODES that burn next if nothing more is done. */
        int threatened(int burning, int guards) {
            int joined = 0;
            for (int k = 0; k < MOST_NODES; k++) {
                if (holds(burning, k)) joined |= near[k];
            }
            return joined & ~burning & ~guards;
        }

        /** Whether GUARDS may be put on a SET now. */
        boolean isLawful(int set, int burning, int guards, int money) {
            int free = all() & ~burning & ~guards;
            return (set & ~free) == 0 && priceOf(set) <= money;
        }

        /** The NODE that a RULE guards next; NONE. */
        int pick(int rule, int burning, int guards, int money) {
            int threatened = threatened(burning, guards);
            int picked = NONE;
            int most = NONE;
            for (int k = 0; k < MOST_NODES; k++) {
                if (!holds(threatened, k) || price[k] > money) continue;
                int rank = rankOf(k, rule, burning | guards);
                if (rank > most) {
                    picked = k;
                    most = rank;
                }
            }
            return picked;
        }

        /** What a RULE looks at: the greater comes first. */
        private int rankOf(int k, int rule, int taken) {
            if (k < 0 || k >= MOST_NODES) return NONE;
            switch (rule) {
                case 1: return worth[k];
                case 2: return Integer.bitCount(near[k] & ~taken);
                default: return 0;
            }
        }
    }

    /** What each TICK may spend. */
    private static final class Purses {
        final int[] own;
        /** 1: what a TICK leaves comes to the next one's. */
        int keeping;

        Purses() {
            own = new int[TICKS];
            Arrays.fill(own, 1);
        }

        void copy(Purses other) {
            System.arraycopy(other.own, 0, own, 0, TICKS);
            keeping = other.keeping;
        }

        /** What a TICK has, where the one before it left something. */
        int money(int tick, int left) {
            int at = Math.max(0, Math.min(tick, TICKS) - 1);
            return own[at] + (keeping == 1 ? left : 0);
        }
    }

    /** One fire on its way, TICK by TICK. */
    private static final class Course {
        int burning;
        int guards;
        int tick;
        int cost;
        boolean bad;
        private boolean over;
        private int money;

        void begin(int fire) {
            burning = fire;
            guards = 0;
            tick = 0;
            cost = 0;
            bad = false;
            over = false;
            money = 0;
        }

        boolean ended() {
            return over || bad;
        }

        void openTick(Purses purses) {
            tick++;
            money = purses.money(tick, money);
        }

        void putSet(Net net, int set) {
            if (!net.isLawful(set, burning, guards, money)) {
                bad = true;
                return;
            }
            pay(set, net.priceOf(set));
        }

        private void pay(int set, int price) {
            guards |= set;
            money -= price;
            cost += price;
        }

        void putByRule(Net net, int rule) {
            for (int i = 0; i < MOST_NODES; i++) {
                int picked = net.pick(rule, burning, guards, money);
                if (picked == NONE) return;
                pay(1 << picked, net.priceOf(1 << picked));
            }
        }

        void spread(Net net) {
            if (bad) return;
            int caught = net.threatened(burning, guards);
            burning |= caught;
            over = caught == 0;
        }
    }

    /** THE BEST, sought TICK by TICK, SETS by rising numbers. */
    private static final class Search {
        final Purses purses;
        int looks;
        int saved;
        int over;
        boolean spent;
        private int bound;
        /** The SETS of the way that is tried, and of the best one till now. */
        private final int[] way;
        private final int[] kept;

        Search() {
            purses = new Purses();
            way = new int[TICKS];
            kept = new int[TICKS];
        }

        /** The SET in a TICK of the best way. */
        int chosen(int tick) {
            return within(tick, 1, TICKS) ? kept[tick - 1] : 0;
        }

        void run(Net net, int mostLooks, int fire) {
            bound = mostLooks;
            looks = 0;
            spent = false;
            saved = NONE;
            seek(net, 1, fire, 0, purses.money(1, 0));
        }

        /** All ways of a TICK and of those that follow it. */
        private void seek(Net net, int tick, int burning, int guards, int money) {
            int free = net.all() & ~burning & ~guards;
            int set = 0;
            for (int step = 0; step <= MOST_SET && !spent; step++) {
                int left = money - net.priceOf(set);
                if (left >= 0) look(net, tick, burning, guards, set, left);
                set = nextWithin(free, left >= 0 ? set : lastAbove(set));
                if (set == 0) return;
            }
        }

        /** The next greater part of a SET; 0 behind its last one. */
        private static int nextWithin(int free, int set) {
            return (set | ~free) + 1 & free;
        }

        /** All numbers from a SET that is too dear up to this one hold it, so are too dear, too. */
        private static int lastAbove(int set) {
            return set | (set & -set) - 1;
        }

        private void look(Net net, int tick, int burning, int guards, int set, int left) {
            if (looks >= bound) {
                spent = true;
                return;
            }
            looks++;
            if (!within(tick, 1, TICKS)) return;
            way[tick - 1] = set;
            int guarded = guards | set;
            int caught = net.threatened(burning, guarded);
            if (caught != 0 && tick < TICKS) {
                seek(net, tick + 1, burning | caught, guarded, purses.money(tick + 1, left));
            } else {
                judge(net, tick, burning, guarded);
            }
        }

        /** Lets a way without more GUARDS go on till it is OVER; keeps it if it is the best. */
        private void judge(Net net, int lastSet, int burning, int guards) {
            int tick = lastSet;
            int end = burning;
            int caught = net.threatened(end, guards);
            for (; tick < LAST_TICK && caught != 0; tick++) {
                end |= caught;
                caught = net.threatened(end, guards);
            }
            int worth = net.savedFrom(end);
            if (worth <= saved) return;
            saved = worth;
            over = tick;
            for (int i = 0; i < TICKS; i++) kept[i] = i < lastSet ? way[i] : 0;
        }
    }

    /** LINES that pass fire by a chance, each for itself. */
    private static final class Chances {
        private final int[] ends;
        private int lines;
        private int barred;
        private int open;
        private int shut;

        Chances() {
            ends = new int[MOST_CHANCY_LINES];
        }

        /** Lays the LINES of a NET, each open in a of b ways. */
        void lay(Net net, int guarded, int a, int b) {
            lines = Math.min(net.lines, MOST_CHANCY_LINES);
            for (int i = 0; i < MOST_CHANCY_LINES; i++) ends[i] = net.endsOf(i);
            barred = guarded;
            open = a;
            shut = b - a;
        }

        long allWays() {
            return power(open + shut, lines);
        }

        /** In how many of all ways a fire comes to a NODE. */
        long waysTo(int k, int fire) {
            return waysFrom(1 << k, fire, 0, lines);
        }

        /** The ways of the LINES that are not tried, by which what is reached comes to the goal. */
        private long waysFrom(int goal, int reached, int tried, int left) {
            if ((reached & goal) != 0) return power(open + shut, left);
            int line = left <= 0 ? NONE : lineOnward(reached, tried);
            return line == NONE ? 0 : waysOver(line, goal, reached, tried, left);
        }

        private long waysOver(int line, int goal, int reached, int tried, int left) {
            if (line < 0 || line >= MOST_CHANCY_LINES) return 0;
            int now = tried | 1 << line;
            long onward = waysFrom(goal, reached | ends[line], now, left - 1);
            return open * onward + shut * waysFrom(goal, reached, now, left - 1);
        }

        /** A LINE that is not tried, from what is reached to a NODE that may be; NONE. */
        private int lineOnward(int reached, int tried) {
            for (int i = 0; i < lines && i < MOST_CHANCY_LINES; i++) {
                int beyond = ends[i] & ~reached;
                boolean leaves = beyond != 0 && beyond != ends[i];
                if (leaves && (beyond & barred) == 0 && !holds(tried, i)) return i;
            }
            return NONE;
        }

        private static long power(long base, int exponent) {
            long product = 1;
            for (int i = 0; i < exponent; i++) product *= base;
            return product;
        }
    }

    /** Squares without end, of which no fire reaches more by the last TICK than the rows hold. */
    private static final class Board {
        private static final int MIDDLE = LAST_BOARD_TICK;
        private static final int SIDE = 2 * MIDDLE + 1;

        int squares;
        int shutIn;
        int lost;
        private final int[] wallX;
        private final int[] wallY;
        private final int[] wallTick;
        /** Rows of squares, bit x + MIDDLE of row y + MIDDLE for (x, y). */
        private final long[] burning;
        private final long[] after;
        private final long[] guarded;

        Board() {
            wallX = new int[MOST_SQUARES];
            wallY = new int[MOST_SQUARES];
            wallTick = new int[MOST_SQUARES];
            burning = new long[SIDE];
            after = new long[SIDE];
            guarded = new long[SIDE];
        }

        boolean isWall(int x, int y) {
            for (int i = 0; i < squares && i < MOST_SQUARES; i++) {
                if (wallX[i] == x && wallY[i] == y) return true;
            }
            return false;
        }

        /** A square of THE WALL: how many there are. */
        int add(int x, int y, int tick) {
            if (squares < 0 || squares >= MOST_SQUARES) return FULL;
            wallX[squares] = x;
            wallY[squares] = y;
            wallTick[squares] = tick;
            squares++;
            return squares;
        }

        int needed() {
            int most = 0;
            for (int tick = 1; tick <= LAST_WALL_TICK; tick++) {
                int told = 0;
                for (int i = 0; i < squares && i < MOST_SQUARES; i++) {
                    if (wallTick[i] == tick) told++;
                }
                most = Math.max(most, told);
            }
            return most;
        }

        /** Lets the fire burn till it is SHUT IN or the last TICK is by. */
        void burn() {
            Arrays.fill(burning, 0);
            Arrays.fill(guarded, 0);
            burning[MIDDLE] = 1L << MIDDLE;
            shutIn = NONE;
            lost = 0;
            for (int tick = 1; tick <= LAST_BOARD_TICK && shutIn == NONE; tick++) {
                putGuards(tick);
                if (!spread()) shutIn = tick;
            }
        }

        private void putGuards(int tick) {
            for (int i = 0; i < squares && i < MOST_SQUARES; i++) {
                // A square beyond the rows is never reached: it need not be kept.
                if (wallTick[i] == tick && onRows(wallX[i]) && onRows(wallY[i])) {
                    putGuard(wallY[i] + MIDDLE, 1L << wallX[i] + MIDDLE);
                }
            }
        }

        private static boolean onRows(int v) {
            return within(v, -MIDDLE, MIDDLE);
        }

        private void putGuard(int row, long square) {
            if (row < 0 || row >= SIDE) return;
            if ((burning[row] & square) != 0) lost++;
            else guarded[row] |= square;
        }

        /** Spreads the fire by one TICK: whether something came to burn. */
        private boolean spread() {
            boolean more = false;
            for (int row = 0; row < SIDE; row++) {
                long here = burning[row];
                long near = here << 1 | here >>> 1 | rowAt(row - 1) | rowAt(row + 1);
                after[row] = here | near & ~guarded[row];
                if (after[row] != here) more = true;
            }
            System.arraycopy(after, 0, burning, 0, SIDE);
            return more;
        }

        private long rowAt(int row) {
            return row < 0 || row >= SIDE ? 0 : burning[row];
        }

        int burnt() {
            int sum = 0;
            for (int row = 0; row < SIDE; row++) sum += Long.bitCount(burning[row]);
            return sum;
        }

        /** The greatest distance of a square that burns. */
        int reach() {
            int most = 0;
            for (int row = 0; row < SIDE; row++) {
                for (int column = 0; column < SIDE; column++) {
                    if ((burning[row] >> column & 1) == 0) continue;
                    most = Math.max(most, Math.abs(row - MIDDLE) + Math.abs(column - MIDDLE));
                }
            }
            return most;
        }
    }
}
