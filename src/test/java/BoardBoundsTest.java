/**
 * The boundary cases of part 5 of the document and of promises 19 to 21: a test for each sentence
 * that names one.
 */
public final class BoardBoundsTest {
    private static final int NONE = FireNets.NONE;
    private static final int OUTSIDE = FireNets.OUTSIDE;
    private static final int NOT = FireNets.NOT;
    private static final int FULL = FireNets.FULL;
    private static final int LOW = Integer.MIN_VALUE;
    private static final int HIGH = Integer.MAX_VALUE;

    private static final Due DUE = new Due("BoardBoundsTest");

    public static void main(String[] args) {
        squaresFrom30To30();
        notBoth0();
        ticksFrom1To20();
        oneAlready();
        oneAlreadyAtAnotherTick();
        upTo40Squares();
        refusedSquaresAreNotThere();
        emptyWall();
        razeAnEmptyWall();
        razeAFullWall();
        razedSquaresAreFree();
        whats();
        neededOfNone();
        neededOfTheFirstAndTheLastTick();
        neededOfAll();
        shutInInTheFirstTick();
        shutInInTick24();
        notShutInByTick24();
        notShutInByOneSquare();
        shutInByTheLastGuards();
        guardsBeforeTheFire();
        lostByOneTick();
        lostInTheLastTick();
        lostByThenAlone();
        lostBehindTheStart();
        lostSquaresBurnOn();
        squaresThatNoFireReaches();
        burningAtTheRim();
        neighboursOfFourSides();
        distanceOfTheStartAlone();
        distanceOnAllSides();
        boardIsTheSameEachTime();
        netsDoNotMatter();
        DUE.close();
    }

    private static void boards(String when, FireNets x, int... due) {
        for (int what = 0; what < due.length; what++) {
            DUE.is(when + ": board(" + what + ")", x.board(what), due[what]);
        }
    }

    /** Promise 19: "x, y -30 .. 30". */
    private static void squaresFrom30To30() {
        FireNets x = new FireNets();
        for (int v : new int[] {-31, 31, -32, 32, 62, LOW, LOW + 1, HIGH}) {
            DUE.is("x " + v, x.wall(v, 1, 1), OUTSIDE);
            DUE.is("y " + v, x.wall(1, v, 1), OUTSIDE);
            DUE.is("both " + v, x.wall(v, v, 1), OUTSIDE);
        }
        int told = 0;
        for (int[] square : new int[][] {{-30, -30}, {-30, 30}, {30, -30}, {30, 30}, {-30, 0}, {0, 30}}) {
            DUE.is("a corner", x.wall(square[0], square[1], 1), ++told);
        }
    }

    /** ".. not both 0": one of them may be. */
    private static void notBoth0() {
        FireNets x = new FireNets();
        for (int tick : new int[] {1, 20}) DUE.is("(0, 0)", x.wall(0, 0, tick), OUTSIDE);
        DUE.is("squares", x.count(3), 0);
        DUE.is("(0, 1)", x.wall(0, 1, 1), 1);
        DUE.is("(0, -1)", x.wall(0, -1, 1), 2);
        DUE.is("(1, 0)", x.wall(1, 0, 1), 3);
        DUE.is("(-1, 0)", x.wall(-1, 0, 1), 4);
    }

    /** "each with a TICK (1 .. 20)". */
    private static void ticksFrom1To20() {
        FireNets x = new FireNets();
        for (int tick : new int[] {0, 21, -1, 24, 32, 33, LOW, HIGH}) {
            DUE.is("tick " + tick, x.wall(1, 1, tick), OUTSIDE);
        }
        for (int tick = 1; tick <= 20; tick++) DUE.is("tick " + tick, x.wall(tick, 1, tick), tick);
    }

    /** Promise 19: "NOT: it is one already". */
    private static void oneAlready() {
        FireNets x = new FireNets();
        x.wall(-30, 30, 7);
        x.wall(2, -3, 7);
        DUE.is("the first one", x.wall(-30, 30, 7), NOT);
        DUE.is("the last one", x.wall(2, -3, 7), NOT);
        DUE.is("squares", x.count(3), 2);
        DUE.is("x and y changed", x.wall(-3, 2, 7), 3);
        DUE.is("mirrored", x.wall(-2, 3, 7), 4);
        DUE.is("of one x", x.wall(2, 3, 7), 5);
        DUE.is("of one y", x.wall(-2, -3, 7), 6);
    }

    /** The same: at another tick, too; it keeps its own. */
    private static void oneAlreadyAtAnotherTick() {
        FireNets x = Shapes.ring(1, 1);
        DUE.is("tick 20", x.wall(1, 0, 20), NOT);
        DUE.is("tick 1", x.wall(1, 0, 1), NOT);
        boards("its own tick", x, 1, 1, 0, 0);
        DUE.is("needed", x.count(4), 4);
    }

    /** "up to 40 squares"; "FULL". */
    private static void upTo40Squares() {
        FireNets x = Shapes.ring(10, 10);
        DUE.is("squares", x.count(3), 40);
        DUE.is("one more", x.wall(1, 1, 1), FULL);
        DUE.is("far off", x.wall(30, 30, 20), FULL);
        DUE.is("squares stay", x.count(3), 40);
        boards("all forty", x, 10, 181, 0, 9);
    }

    /** "What is refused changes nothing." */
    private static void refusedSquaresAreNotThere() {
        FireNets x = new FireNets();
        x.wall(31, 0, 1);
        x.wall(0, 0, 1);
        x.wall(1, 0, 0);
        x.wall(1, 0, 21);
        DUE.is("squares", x.count(3), 0);
        boards("an empty wall", x, NONE, 1201, 0, 24);
        DUE.is("the first one", x.wall(1, 0, 1), 1);
    }

    /** "THE WALL": empty at first, and the fire is not shut in. */
    private static void emptyWall() {
        FireNets x = new FireNets();
        DUE.is("squares", x.count(3), 0);
        boards("24 ticks of open board", x, NONE, 1201, 0, 24);
    }

    /** Promise 20: how many it had: none. */
    private static void razeAnEmptyWall() {
        FireNets x = new FireNets();
        DUE.is("at first", x.raze(), 0);
        x.wall(1, 0, 1);
        DUE.is("of one", x.raze(), 1);
        DUE.is("and then", x.raze(), 0);
        DUE.is("squares", x.count(3), 0);
    }

    /** Promise 20: ".. is empty": forty more find room. */
    private static void razeAFullWall() {
        FireNets x = Shapes.ring(10, 10);
        DUE.is("of forty", x.raze(), 40);
        DUE.is("squares", x.count(3), 0);
        DUE.is("needed", x.count(4), 0);
        boards("an empty wall", x, NONE, 1201, 0, 24);
        for (int k = 1; k <= 40; k++) DUE.is("square " + k, x.wall(k - 20, 5, 3), k);
        DUE.is("one more", x.wall(0, 1, 3), FULL);
    }

    /** The same: what was one already is none now. */
    private static void razedSquaresAreFree() {
        FireNets x = Shapes.ring(1, 2);
        x.raze();
        DUE.is("the same square", x.wall(1, 0, 5), 1);
        DUE.is("once more", x.wall(1, 0, 5), NOT);
        boards("it is lost at its new tick", x, NONE, 1201, 1, 24);
    }

    /** Promise 21: what = 0 to 3. */
    private static void whats() {
        FireNets x = Shapes.ring(1, 1);
        for (int what : new int[] {-1, 4, 32, 33, LOW, HIGH}) DUE.is("board(" + what + ")", x.board(what), OUTSIDE);
        boards("the whats that there are", x, 1, 1, 0, 0);
    }

    /** "NEEDED: the greatest number of squares told for one TICK": of none 0. */
    private static void neededOfNone() {
        FireNets x = new FireNets();
        DUE.is("an empty wall", x.count(4), 0);
        x.wall(1, 1, 1);
        DUE.is("one square", x.count(4), 1);
        x.raze();
        DUE.is("razed", x.count(4), 0);
    }

    /** The same: ticks 1 and 20 count, too. */
    private static void neededOfTheFirstAndTheLastTick() {
        FireNets x = new FireNets();
        x.wall(1, 1, 10);
        x.wall(2, 1, 1);
        x.wall(3, 1, 1);
        DUE.is("tick 1", x.count(4), 2);
        x.wall(4, 1, 20);
        x.wall(5, 1, 20);
        x.wall(6, 1, 20);
        DUE.is("tick 20", x.count(4), 3);
    }

    /** The same: "told": all forty for one tick, lost ones and those far off, too. */
    private static void neededOfAll() {
        DUE.is("forty", Shapes.ring(10, 20).count(4), 40);
        FireNets x = new FireNets();
        x.wall(1, 0, 20);
        x.wall(30, 30, 20);
        DUE.is("one is lost, one far off", x.count(4), 2);
        for (int tick = 1; tick <= 20; tick++) x.wall(-3, tick, tick);
        DUE.is("one each but for the last", x.count(4), 3);
    }

    /** "SHUT IN: the first TICK .. in which nothing comes to burn": tick 1. */
    private static void shutInInTheFirstTick() {
        boards("all four sides", Shapes.ring(1, 1), 1, 1, 0, 0);
        FireNets x = Shapes.ring(1, 1);
        x.wall(2, 0, 1);
        x.wall(30, 30, 20);
        boards("and more", x, 1, 1, 0, 0);
    }

    /** ".. up to 24 ..": stairs of 23 steps, on the last of which it burns in tick 23. */
    private static void shutInInTick24() {
        for (int steps = 1; steps <= 23; steps++) {
            FireNets x = Shapes.stairs(steps, 1);
            boards("stairs of " + steps, x, steps + 1, steps + 1, 0, steps);
        }
    }

    /** Promise 21: "(NONE: not by TICK 24)": one step more, "behind TICK 24, if it is not". */
    private static void notShutInByTick24() {
        FireNets x = Shapes.stairs(24, 1);
        boards("stairs of 24", x, NONE, 25, 0, 24);
        boards("stairs of 26", Shapes.stairs(26, 1), NONE, 25, 0, 24);
    }

    /** The same: a ring with one square left open. */
    private static void notShutInByOneSquare() {
        FireNets x = new FireNets();
        x.wall(1, 0, 1);
        x.wall(-1, 0, 1);
        x.wall(0, 1, 1);
        // Below the start all 576 squares burn in their time. Beside it and above the fire comes two
        // ticks late (42 and 420 squares), above the guards four and six ticks late (38 and 17).
        boards("three of four", x, NONE, 1 + 576 + 42 + 420 + 38 + 17, 0, 24);
        x.wall(0, -1, 1);
        boards("four", x, 1, 1, 0, 0);
    }

    /** "each with a TICK (1 .. 20)": the last one's guards shut it in, in the last moment. */
    private static void shutInByTheLastGuards() {
        // The fire climbs 19 steps till tick 19; in tick 20 the twentieth one gets guards.
        FireNets x = closedLate(19, 20);
        boards("closed in tick 20", x, 20, 20, 0, 19);
        boards("closed in tick 19", closedLate(19, 19), 20, 20, 0, 19);
        boards("closed in tick 20 for a fire that comes later", closedLate(21, 20), 22, 22, 0, 21);
    }

    /** Stairs that are closed at a tick of its own. */
    private static FireNets closedLate(int steps, int tick) {
        FireNets open = Shapes.stairs(steps + 2, 1);
        open.wall((steps + 2) / 2, (steps + 1) / 2, tick);
        return open;
    }

    /** "TICK by TICK: GUARDS of that TICK; then fire spreads". */
    private static void guardsBeforeTheFire() {
        for (int distance = 1; distance <= 10; distance++) {
            int burnt = 1 + 2 * distance * (distance - 1);
            boards("in time", Shapes.ring(distance, distance), distance, burnt, 0, distance - 1);
            if (distance > 1) {
                boards("early", Shapes.ring(distance, 1), distance, burnt, 0, distance - 1);
            }
        }
    }

    /** "if it does not burn (else it is LOST)": one tick too late. */
    private static void lostByOneTick() {
        for (int distance = 1; distance <= 10; distance++) {
            boards("too late", Shapes.ring(distance, distance + 1), NONE, 1201, 4 * distance, 24);
        }
    }

    /** The same, in tick 20: what burns since tick 19 is lost, what would burn now is not. */
    private static void lostInTheLastTick() {
        FireNets x = new FireNets();
        x.wall(19, 0, 20);
        DUE.is("at 19", x.board(2), 1);
        x.wall(20, 0, 20);
        DUE.is("at 20", x.board(2), 1);
        x.wall(10, 9, 20);
        x.wall(-10, -10, 20);
        DUE.is("aslant", x.board(2), 2);
    }

    /** Promise 21: "that were LOST by then": of SHUT IN, that tick among them. */
    private static void lostByThenAlone() {
        FireNets x = Shapes.ring(3, 1);
        x.wall(1, 0, 2);
        DUE.is("in tick 2", x.board(2), 1);
        x.wall(0, 1, 3);
        boards("in the tick in which it is shut in", x, 3, 13, 2, 2);
        x.wall(-1, 0, 4);
        x.wall(0, -1, 20);
        boards("in later ticks", x, 3, 13, 2, 2);
    }

    /** The same: in tick 1 nothing but (0, 0) burns, so nothing is lost. */
    private static void lostBehindTheStart() {
        FireNets x = new FireNets();
        x.wall(1, 0, 1);
        x.wall(0, 1, 2);
        // Not (1, 0), nor (23, 0) and (24, 0), to which the fire comes two ticks late.
        boards("the second one is lost", x, NONE, 1198, 1, 24);
        FireNets y = new FireNets();
        y.wall(1, 0, 1);
        DUE.is("in tick 1 none is", y.board(2), 0);
    }

    /** The same: it gets no guards, so it burns on and passes fire on. */
    private static void lostSquaresBurnOn() {
        FireNets x = Shapes.ring(2, 3);
        boards("as if there were none", x, NONE, 1201, 8, 24);
        FireNets y = Shapes.ring(2, 2);
        y.wall(1, 0, 2);
        boards("a lost one inside still burns", y, 2, 5, 1, 1);
    }

    /** "squares (x, y) without end": guards where no fire comes by tick 24 do nothing. */
    private static void squaresThatNoFireReaches() {
        FireNets x = new FireNets();
        for (int v : new int[] {-30, 30}) {
            x.wall(v, v, 1);
            x.wall(v, -v, 20);
            x.wall(v, 0, 20);
            x.wall(0, v, 1);
            x.wall(v < 0 ? -25 : 25, 0, 20);
            x.wall(0, v < 0 ? -25 : 25, 1);
            x.wall(v < 0 ? -24 : 24, 1, 1);
            x.wall(v < 0 ? -24 : 24, 24, 20);
        }
        boards("a fire that never comes there", x, NONE, 1201, 0, 24);
    }

    /** The same: at a distance of 24 it comes in tick 24, and guards there keep one square each. */
    private static void burningAtTheRim() {
        FireNets x = new FireNets();
        int burnt = 1201;
        for (int[] square : new int[][] {{24, 0}, {-24, 0}, {0, 24}, {0, -24}, {12, 12}, {-12, 12}, {-1, -23}}) {
            x.wall(square[0], square[1], 20);
            burnt--;
            boards("at the rim", x, NONE, burnt, 0, 24);
        }
    }

    /** "each with four neighbours": not those aslant. */
    private static void neighboursOfFourSides() {
        FireNets x = Shapes.ring(1, 1);
        DUE.is("four are enough", x.board(0), 1);
        FireNets y = new FireNets();
        for (int v : new int[] {-1, 1}) {
            y.wall(v, 1, 1);
            y.wall(v, -1, 1);
        }
        DUE.is("those aslant are not", y.board(0), NONE);
    }

    /** "the greatest distance of a burning one": of (0, 0) alone 0. */
    private static void distanceOfTheStartAlone() {
        DUE.is("it alone", Shapes.ring(1, 1).board(3), 0);
        DUE.is("and its neighbours", Shapes.ring(2, 1).board(3), 1);
    }

    /** "(the sizes of x and y together)": below 0, too. */
    private static void distanceOnAllSides() {
        for (int side = 0; side < 4; side++) {
            int dx = side == 0 ? 1 : side == 1 ? -1 : 0;
            int dy = side == 2 ? 1 : side == 3 ? -1 : 0;
            FireNets x = new FireNets();
            // A room of three squares towards one side.
            for (int step = 0; step <= 2; step++) {
                x.wall(dx * step + dy, dy * step + dx, 1);
                x.wall(dx * step - dy, dy * step - dx, 1);
            }
            x.wall(-dx, -dy, 1);
            x.wall(3 * dx, 3 * dy, 1);
            boards("towards side " + side, x, 3, 3, 0, 2);
        }
        boards("aslant", Shapes.stairs(4, 1), 5, 5, 0, 4);
    }

    /** What a fire did to the board is gone when it is asked again. */
    private static void boardIsTheSameEachTime() {
        FireNets x = Shapes.ring(2, 2);
        for (int i = 0; i < 3; i++) boards("time " + i, x, 2, 5, 0, 1);
        x.raze();
        for (int i = 0; i < 3; i++) boards("razed, time " + i, x, NONE, 1201, 0, 24);
    }

    /** A net made anew, and what burns there, is nothing to the board. */
    private static void netsDoNotMatter() {
        FireNets x = Shapes.ring(2, 2);
        x.net(10);
        x.line(0, 1);
        x.play(1, 0);
        x.best(1, 0);
        DUE.is("squares", x.count(3), 8);
        boards("as before", x, 2, 5, 0, 1);
        DUE.is("raze", x.raze(), 8);
        DUE.is("the net stays", x.count(0) * 10 + x.count(1), 101);
    }
}
