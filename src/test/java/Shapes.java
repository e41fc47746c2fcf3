/** Nets and walls that several tests begin with. */
final class Shapes {
    private Shapes() {
    }

    /** n nodes without lines. */
    static FireNets bare(int n) {
        FireNets x = new FireNets();
        x.net(n);
        return x;
    }

    /** Nodes 0 to n - 1 in a row. */
    static FireNets path(int n) {
        FireNets x = bare(n);
        for (int k = 0; k + 1 < n; k++) x.line(k, k + 1);
        return x;
    }

    /** Node 0 in the middle of all others. */
    static FireNets star(int n) {
        FireNets x = bare(n);
        for (int k = 1; k < n; k++) x.line(0, k);
        return x;
    }

    /** n nodes with the first lines of all that there can be. */
    static FireNets dense(int n, int lines) {
        FireNets x = bare(n);
        int made = 0;
        for (int a = 0; a < n; a++) {
            for (int b = a + 1; b < n && made < lines; b++, made++) x.line(a, b);
        }
        return x;
    }

    /** The same purse in each tick. */
    static FireNets purses(FireNets x, int v) {
        for (int tick = 1; tick <= 8; tick++) x.purse(tick, v);
        return x;
    }

    /** All squares at a distance from (0, 0), at one tick. */
    static FireNets ring(int distance, int tick) {
        FireNets x = new FireNets();
        for (int k = 0; k < distance; k++) {
            x.wall(distance - k, k, tick);
            x.wall(-k, distance - k, tick);
            x.wall(k - distance, -k, tick);
            x.wall(k, k - distance, tick);
        }
        return x;
    }

    /**
     * Walls on both sides of the stairs (0, 0), (1, 0), (1, 1), (2, 1) and so on, which the fire
     * climbs by one square a tick; closed behind as many steps.
     */
    static FireNets stairs(int steps, int tick) {
        FireNets x = new FireNets();
        x.wall(0, -1, tick);
        for (int j = -1; 2 * j <= steps; j++) x.wall(j, j + 1, tick);
        for (int j = -1; 2 * j + 1 <= steps; j++) x.wall(j + 2, j, tick);
        x.wall((steps + 2) / 2, (steps + 1) / 2, tick);
        return x;
    }
}
