/** Promises 19 to 21: the wall and the fire on the board. */
public final class BoardTest {
    private static final int NONE = FireNets.NONE;
    private static final int OUTSIDE = FireNets.OUTSIDE;
    private static final int NOT = FireNets.NOT;
    private static final int FULL = FireNets.FULL;
    private static final int LOW = Integer.MIN_VALUE;
    private static final int HIGH = Integer.MAX_VALUE;

    private static final Due DUE = new Due("BoardTest");

    public static void main(String[] args) {
        wallSquares();
        wallRefused();
        wallFull();
        razeWall();
        openBoard();
        shutInAtOnce();
        shutInLater();
        shutInTooLate();
        lostSquares();
        lostByThen();
        shutInByTwoTicks();
        farthestRows();
        corridor();
        boardRefused();
        DUE.close();
    }

    private static void boards(FireNets x, int... due) {
        for (int what = 0; what < 4; what++) DUE.is("board(" + what + ")", x.board(what), due[what]);
    }

    private static void wallSquares() {
        FireNets x = new FireNets();
        DUE.is("first", x.wall(30, -30, 20), 1);
        DUE.is("second", x.wall(-30, 30, 1), 2);
        DUE.is("on one axis", x.wall(0, 1, 1), 3);
        DUE.is("on the other", x.wall(1, 0, 1), 4);
        DUE.is("mirrored", x.wall(30, 30, 20), 5);
        DUE.is("squares", x.count(3), 5);
    }

    private static void wallRefused() {
        FireNets x = new FireNets();
        x.wall(2, 3, 4);
        for (int v : new int[] {-31, 31, LOW, HIGH}) {
            DUE.is("x " + v, x.wall(v, 1, 1), OUTSIDE);
            DUE.is("y " + v, x.wall(1, v, 1), OUTSIDE);
        }
        DUE.is("the fire", x.wall(0, 0, 1), OUTSIDE);
        for (int tick : new int[] {0, 21, -1, LOW, HIGH}) DUE.is("tick " + tick, x.wall(1, 1, tick), OUTSIDE);
        DUE.is("outside comes first", x.wall(2, 3, 0), OUTSIDE);
        DUE.is("one already", x.wall(2, 3, 4), NOT);
        DUE.is("one already, at another tick", x.wall(2, 3, 5), NOT);
        DUE.is("not the one with x and y changed", x.wall(3, 2, 4), 2);
        DUE.is("squares", x.count(3), 2);
    }

    private static void wallFull() {
        FireNets x = new FireNets();
        for (int k = 1; k <= 40; k++) DUE.is("square " + k, x.wall(k <= 20 ? k : 20 - k, 7, 9), k);
        DUE.is("one more", x.wall(0, 8, 9), FULL);
        DUE.is("full, one already", x.wall(5, 7, 1), NOT);
        DUE.is("full, outside", x.wall(0, 0, 1), OUTSIDE);
        DUE.is("squares", x.count(3), 40);
        DUE.is("needed", x.count(4), 40);
    }

    private static void razeWall() {
        FireNets x = Shapes.ring(1, 1);
        DUE.is("shut in", x.board(0), 1);
        DUE.is("raze", x.raze(), 4);
        DUE.is("squares", x.count(3), 0);
        DUE.is("needed", x.count(4), 0);
        boards(x, NONE, 1201, 0, 24);
        DUE.is("raze again", x.raze(), 0);
        DUE.is("the same square", x.wall(1, 0, 1), 1);
    }

    private static void openBoard() {
        FireNets x = new FireNets();
        boards(x, NONE, 1 + 2 * 24 * 25, 0, 24);
        x.wall(0, 24, 20);
        // One square of the edge has guards by then.
        boards(x, NONE, 1200, 0, 24);
    }

    private static void shutInAtOnce() {
        boards(Shapes.ring(1, 1), 1, 1, 0, 0);
        // One tick later all four are lost.
        boards(Shapes.ring(1, 2), NONE, 1201, 4, 24);
    }

    private static void shutInLater() {
        boards(Shapes.ring(2, 1), 2, 5, 0, 1);
        boards(Shapes.ring(2, 2), 2, 5, 0, 1);
        boards(Shapes.ring(2, 3), NONE, 1201, 8, 24);
        boards(Shapes.ring(10, 10), 10, 1 + 2 * 9 * 10, 0, 9);
        boards(Shapes.ring(10, 1), 10, 181, 0, 9);
        boards(Shapes.ring(10, 11), NONE, 1201, 40, 24);
    }

    private static void shutInTooLate() {
        // A ring of ten with one square left open: fire goes out there in tick 10.
        FireNets x = Shapes.ring(10, 5);
        x.raze();
        for (int k = 0; k < 10; k++) {
            if (k > 0) x.wall(10 - k, k, 5);
            x.wall(-k, 10 - k, 5);
            x.wall(k - 10, -k, 5);
            x.wall(k, k - 10, 5);
        }
        DUE.is("39 squares", x.count(3), 39);
        DUE.is("not shut in", x.board(0), NONE);
        x.wall(11, 0, 11);
        // (10, 0) burns in tick 10, and (11, 0) has guards, but (10, 1) and (10, -1) are open.
        DUE.is("still not", x.board(0), NONE);
        DUE.is("distance", x.board(3), 24);
    }

    private static void lostSquares() {
        FireNets x = new FireNets();
        x.wall(3, 0, 3);
        // Behind (3, 0) the fire comes two ticks late: not to (23, 0) and (24, 0).
        boards(x, NONE, 1198, 0, 24);
        x.wall(-3, 0, 4);
        boards(x, NONE, 1198, 1, 24);
        x.wall(0, 19, 20);
        x.wall(0, -20, 20);
        // The second one is in time, and (0, -23) and (0, -24) are late.
        boards(x, NONE, 1195, 2, 24);
        x.wall(30, 30, 1);
        x.wall(25, 0, 20);
        x.wall(0, -25, 20);
        boards(x, NONE, 1195, 2, 24);
    }

    private static void lostByThen() {
        FireNets x = Shapes.ring(2, 1);
        // (1, 0) burns behind tick 1 and is lost in tick 2, in which the fire is shut in.
        x.wall(1, 0, 2);
        boards(x, 2, 5, 1, 1);
        // What comes later is not told.
        x.wall(0, 1, 3);
        x.wall(-1, 0, 20);
        boards(x, 2, 5, 1, 1);
        // A square that the fire has not reached is kept in the first tick: one square less burns.
        x.wall(0, -1, 1);
        boards(x, 2, 4, 1, 1);
    }

    private static void shutInByTwoTicks() {
        FireNets x = new FireNets();
        x.wall(1, 0, 1);
        x.wall(0, 1, 1);
        x.wall(-1, 1, 2);
        x.wall(1, -1, 2);
        DUE.is("not yet", x.board(0), NONE);
        x.wall(-1, -1, 2);
        x.wall(-2, 0, 2);
        x.wall(0, -2, 2);
        // Three burn: (0, 0), (-1, 0) and (0, -1).
        boards(x, 2, 3, 0, 1);
        DUE.is("needed", x.count(4), 5);
    }

    private static void farthestRows() {
        // Guards at the ends of the four arms, which the fire would reach in tick 24 alone.
        FireNets x = new FireNets();
        x.wall(24, 0, 1);
        x.wall(-24, 0, 1);
        x.wall(0, 24, 1);
        x.wall(0, -24, 1);
        boards(x, NONE, 1197, 0, 24);
        x.wall(24, 24, 1);
        x.wall(-25, 0, 1);
        boards(x, NONE, 1197, 0, 24);
    }

    private static void corridor() {
        // A corridor of one row towards the right, closed on all other sides.
        FireNets x = new FireNets();
        x.wall(-1, 0, 1);
        for (int k = 0; k <= 18; k++) {
            x.wall(k, 1, k + 1);
            x.wall(k, -1, k + 1);
        }
        DUE.is("39 squares", x.count(3), 39);
        DUE.is("two a tick, three in the first", x.count(4), 3);
        DUE.is("open at its end", x.board(0), NONE);
        DUE.is("distance", x.board(3), 24);
        x.wall(19, 0, 19);
        boards(x, 19, 19, 0, 18);
        x.raze();
        x.wall(0, -1, 1);
        for (int k = 0; k <= 18; k++) {
            x.wall(1, k, k + 1);
            x.wall(-1, k, k + 1);
        }
        x.wall(0, 19, 20);
        // (0, 19) burns in tick 19: the last guard is lost.
        DUE.is("lost", x.board(2), 1);
        DUE.is("not shut in", x.board(0), NONE);
    }

    private static void boardRefused() {
        FireNets x = new FireNets();
        for (int what : new int[] {-1, 4, LOW, HIGH}) DUE.is("board " + what, x.board(what), OUTSIDE);
    }
}
