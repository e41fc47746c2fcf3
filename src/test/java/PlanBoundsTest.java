/**
 * The boundary cases of fires and plans in part 1 of the document, of part 2 and of promises 8 to
 * 13: a test for each sentence that names one.
 */
public final class PlanBoundsTest {
    private static final int NONE = FireNets.NONE;
    private static final int OUTSIDE = FireNets.OUTSIDE;
    private static final int LOW = Integer.MIN_VALUE;
    private static final int HIGH = Integer.MAX_VALUE;

    private static final Due DUE = new Due("PlanBoundsTest");

    public static void main(String[] args) {
        plansOfTicks1To8();
        plansOf0To1023();
        plansOfNodesThatAreNotThere();
        firesOfAllSets();
        playWhats();
        burnsTicks();
        burnsBehindTheEnd();
        emptyPlan();
        emptySetOfAnEmptyPurse();
        laterTicksHaveNoSet();
        atMostWhatThePurseHas();
        badWhereANodeIsNotThere();
        badWhereANodeBurns();
        badWhereANodeHasGuards();
        badWhereItIsTooDear();
        badInTheFirstAndTheLastTick();
        badByThen();
        nothingAtAllIsPutOfABadSet();
        overInTheFirstTick();
        overInTheLatestTick();
        overBehindTheFirstTickWithoutFire();
        guardsBeforeTheFire();
        savedNothingAndMost();
        bestWhats();
        bestOfOneNode();
        bestWhereAllBurn();
        bestOfAnEmptyPurse();
        bestOfLikeOnes();
        bestTriesByRisingNumbers();
        bestTriesTheEmptySetAndAllAtOnce();
        bestLooksAtWhatIsNotTooDear();
        bestKeepingAsItIs();
        bestInTick8();
        bestGoesOnBehindTick8();
        spentAboveBound();
        spentAtBound50And1000();
        spentTellsOfWhatWasSought();
        takeWritesAllTicks();
        takeRefused();
        leastFrom0To20();
        leastOfWantedFrom0To90();
        leastSavesThatOrMore();
        leastOfWhatIsSought();
        leastKeepingAsItIs();
        leastLeavesThePurses();
        DUE.close();
    }

    private static void plays(String when, FireNets x, int fire, int... due) {
        for (int what = 0; what < due.length; what++) {
            DUE.is(when + ": play(" + fire + ", " + what + ")", x.play(fire, what), due[what]);
        }
    }

    private static void bests(String when, FireNets x, int fire, int... due) {
        for (int what = 0; what < due.length; what++) {
            DUE.is(when + ": best(" + fire + ", " + what + ")", x.best(fire, what), due[what]);
        }
    }

    /** "for each TICK 1 to 8 a SET (none at first ..". */
    private static void plansOfTicks1To8() {
        FireNets x = new FireNets();
        for (int tick : new int[] {0, 9, -1, 32, 33, LOW, LOW + 1, HIGH}) {
            DUE.is("plan(" + tick + ", 5)", x.plan(tick, 5), OUTSIDE);
        }
        for (int tick = 1; tick <= 8; tick++) DUE.is("none at first in " + tick, x.plan(tick, tick), 0);
        for (int tick = 1; tick <= 8; tick++) DUE.is("its own in " + tick, x.plan(tick, 0), tick);
        for (int tick = 1; tick <= 8; tick++) DUE.is("none again in " + tick, x.plan(tick, 0), 0);
    }

    /** Promise 8: "(0 .. 1023)". */
    private static void plansOf0To1023() {
        FireNets x = Shapes.bare(10);
        for (int tick : new int[] {1, 8}) {
            for (int set : new int[] {-1, 1024, 1025, 2047, LOW, LOW + 1, HIGH}) {
                DUE.is("plan(" + tick + ", " + set + ")", x.plan(tick, set), OUTSIDE);
            }
            DUE.is("was", x.plan(tick, 1023), 0);
            DUE.is("1023 is kept", x.plan(tick, 512), 1023);
            DUE.is("512 is kept", x.plan(tick, 1), 512);
            DUE.is("1 is kept", x.plan(tick, 0), 1);
        }
    }

    /** Promise 8, likewise: a plan may name nodes that a net has not; they end its play alone. */
    private static void plansOfNodesThatAreNotThere() {
        FireNets x = new FireNets();
        DUE.is("all ten, of one", x.plan(1, 1023), 0);
        DUE.is("kept", x.plan(1, 1022), 1023);
        plays("nine that are not there", x, 1, NONE, 1, 0, 1, 0);
    }

    /** Promise 9: "a FIRE (1 .. 2^n - 1)", of each n, for every call of a fire. */
    private static void firesOfAllSets() {
        for (int n = 1; n <= 10; n++) {
            FireNets x = Shapes.bare(n);
            for (int fire : new int[] {0, 1 << n, (1 << n) + 1, -1, 1 << 30, LOW, LOW + 1, HIGH}) {
                DUE.is("play of " + fire, x.play(fire, 0), OUTSIDE);
                DUE.is("burns of " + fire, x.burns(fire, 0), OUTSIDE);
                DUE.is("best of " + fire, x.best(fire, 0), OUTSIDE);
                DUE.is("take of " + fire, x.take(fire), OUTSIDE);
                DUE.is("least of " + fire, x.least(fire, 0), OUTSIDE);
            }
            for (int fire : new int[] {1, 1 << n - 1, (1 << n) - 1}) {
                int saved = n - Integer.bitCount(fire);
                DUE.is("play of " + fire, x.play(fire, 0), saved);
                DUE.is("burns of " + fire, x.burns(fire, 0), fire);
                DUE.is("best of " + fire, x.best(fire, 0), saved);
                DUE.is("take of " + fire, x.take(fire), saved);
                DUE.is("least of " + fire, x.least(fire, saved), 0);
            }
        }
    }

    /** Promise 9: what = 0 to 4. */
    private static void playWhats() {
        FireNets x = Shapes.path(3);
        for (int what : new int[] {-1, 5, 32, 36, LOW, HIGH}) {
            DUE.is("play(1, " + what + ")", x.play(1, what), OUTSIDE);
        }
        plays("the whats that there are", x, 1, 0, 7, 0, 3, 0);
    }

    /** Promise 10: "a TICK (0 .. 20)". */
    private static void burnsTicks() {
        FireNets x = Shapes.path(10);
        for (int tick : new int[] {-1, 21, 32, LOW, HIGH}) {
            DUE.is("burns(1, " + tick + ")", x.burns(1, tick), OUTSIDE);
        }
        DUE.is("behind tick 0: the fire itself", x.burns(1, 0), 1);
        DUE.is("behind tick 1", x.burns(1, 1), 3);
        DUE.is("behind tick 8", x.burns(1, 8), 511);
        DUE.is("behind tick 9", x.burns(1, 9), 1023);
        DUE.is("behind tick 20", x.burns(1, 20), 1023);
    }

    /** Promise 10: "(behind its end: as then)": of a play that is over and of a bad one. */
    private static void burnsBehindTheEnd() {
        FireNets x = Shapes.path(5);
        x.plan(2, 4);
        int[] over = {1, 3, 3, 3};
        for (int tick = 0; tick <= 20; tick++) {
            DUE.is("over, behind " + tick, x.burns(1, tick), over[Math.min(tick, 3)]);
        }
        x.plan(2, 1);
        for (int tick = 0; tick <= 20; tick++) {
            DUE.is("bad, behind " + tick, x.burns(1, tick), over[Math.min(tick, 3)]);
        }
        x.plan(1, 1);
        for (int tick = 0; tick <= 20; tick++) DUE.is("bad at once, behind " + tick, x.burns(1, tick), 1);
    }

    /** "(none at first ..": nothing is put, nothing is paid. */
    private static void emptyPlan() {
        plays("one node", new FireNets(), 1, 0, 1, 0, 1, 0);
        plays("no lines", Shapes.bare(10), 512, 9, 512, 0, 1, 0);
        plays("a row", Shapes.path(4), 1, 0, 15, 0, 4, 0);
    }

    /** "at most what the PURSE has": 0 of 0. */
    private static void emptySetOfAnEmptyPurse() {
        FireNets x = Shapes.purses(Shapes.path(4), 0);
        plays("nothing for nothing", x, 1, 0, 15, 0, 4, 0);
        x.plan(1, 8);
        plays("something for nothing", x, 1, NONE, 1, 0, 1, 0);
    }

    /** "later TICKS: none". */
    private static void laterTicksHaveNoSet() {
        FireNets x = Shapes.purses(Shapes.path(10), 20);
        x.plan(8, 512);
        plays("tick 8 is the last with a set", x, 1, 1, 511, 512, 9, 1);
        x.plan(8, 0);
        plays("none behind it", x, 1, 0, 1023, 0, 10, 0);
        x.plan(1, 512);
        plays("nor that of tick 1 again", x, 1, 1, 511, 512, 9, 1);
    }

    /** "for all their PRICES together, at most what the PURSE has". */
    private static void atMostWhatThePurseHas() {
        FireNets x = Shapes.star(4);
        x.node(1, 1, 9);
        x.node(2, 1, 9);
        x.node(3, 1, 2);
        x.plan(1, 14);
        x.purse(1, 20);
        plays("20 of 20", x, 1, 3, 1, 14, 1, 20);
        x.purse(1, 19);
        plays("20 of 19", x, 1, NONE, 1, 0, 1, 0);
        x.node(3, 1, 3);
        x.purse(1, 20);
        plays("21 of 20", x, 1, NONE, 1, 0, 1, 0);
        x.plan(1, 6);
        x.purse(1, 18);
        plays("18 of 18", x, 1, 2, 9, 6, 2, 18);
    }

    /** "a NODE that there is not". */
    private static void badWhereANodeIsNotThere() {
        FireNets x = Shapes.purses(Shapes.path(3), 20);
        x.plan(1, 4);
        plays("the last one that there is", x, 1, 1, 3, 4, 2, 1);
        x.plan(1, 8);
        plays("the first one that there is not", x, 1, NONE, 1, 0, 1, 0);
        x.plan(1, 512);
        plays("the last one that there could be", x, 1, NONE, 1, 0, 1, 0);
        x.plan(1, 2 + 8);
        plays("one of two", x, 1, NONE, 1, 0, 1, 0);
        x.net(4);
        x.plan(1, 8);
        plays("a net with one more", x, 1, 3, 1, 8, 1, 1);
    }

    /** "that burns": from the beginning, and later. */
    private static void badWhereANodeBurns() {
        FireNets x = Shapes.purses(Shapes.path(5), 20);
        x.plan(1, 1);
        plays("from the beginning", x, 1, NONE, 1, 0, 1, 0);
        plays("all burn", x, 31, NONE, 31, 0, 1, 0);
        x.plan(1, 0);
        x.plan(2, 2);
        plays("since tick 1", x, 1, NONE, 3, 0, 2, 0);
        x.plan(2, 4);
        plays("it would burn in this tick", x, 1, 3, 3, 4, 2, 1);
    }

    /** "or has GUARDS already". */
    private static void badWhereANodeHasGuards() {
        FireNets x = Shapes.purses(Shapes.path(6), 20);
        x.plan(1, 32);
        x.plan(2, 32);
        plays("in the tick before", x, 1, NONE, 3, 32, 2, 1);
        x.plan(2, 0);
        x.plan(4, 48);
        plays("long before, and one beside it", x, 1, NONE, 15, 32, 4, 1);
        x.plan(4, 16);
        plays("the one beside it", x, 1, 2, 15, 48, 4, 2);
    }

    /** "or that is too dear": by 1. */
    private static void badWhereItIsTooDear() {
        FireNets x = Shapes.path(5);
        x.node(4, 1, 9);
        x.plan(3, 16);
        x.purse(3, 9);
        plays("9 of 9", x, 1, 1, 15, 16, 4, 9);
        x.purse(3, 8);
        plays("9 of 8", x, 1, NONE, 7, 0, 3, 0);
        x.purse(2, 20);
        plays("what tick 2 has does not help", x, 1, NONE, 7, 0, 3, 0);
    }

    /** "it is BAD in that TICK": in tick 1 and in tick 8, and never where it is over before. */
    private static void badInTheFirstAndTheLastTick() {
        FireNets x = Shapes.path(10);
        x.plan(8, 1);
        plays("tick 8", x, 1, NONE, 255, 0, 8, 0);
        x.plan(1, 1);
        plays("tick 1", x, 1, NONE, 1, 0, 1, 0);
        x.plan(1, 256);
        plays("bad in the tick in which it would be over", x, 1, NONE, 255, 256, 8, 1);
        x.plan(1, 128);
        plays("over in the tick before", x, 1, 3, 127, 128, 7, 1);
    }

    /** Promise 9: "(Of a BAD one 1, 2, 4 by then.)". */
    private static void badByThen() {
        FireNets x = Shapes.path(10);
        x.purse(1, 3);
        x.node(9, 1, 3);
        x.plan(1, 512);
        x.plan(2, 256);
        x.plan(3, 256);
        plays("two sets, three ticks", x, 1, NONE, 7, 768, 3, 4);
        x.plan(2, 512);
        plays("one set, two ticks", x, 1, NONE, 3, 512, 2, 3);
        x.plan(1, 1);
        plays("none", x, 1, NONE, 1, 0, 1, 0);
    }

    /** The same: of a set that is not lawful no part is put or paid. */
    private static void nothingAtAllIsPutOfABadSet() {
        FireNets x = Shapes.star(4);
        x.purse(1, 2);
        x.plan(1, 14);
        plays("three for two", x, 1, NONE, 1, 0, 1, 0);
        x.plan(1, 3);
        plays("one of two burns", x, 1, NONE, 1, 0, 1, 0);
    }

    /** "OVER behind the first TICK in which nothing comes to burn": tick 1. */
    private static void overInTheFirstTick() {
        plays("one node", new FireNets(), 1, 0, 1, 0, 1, 0);
        plays("all burn", Shapes.dense(10, 24), 1023, 0, 1023, 0, 1, 0);
        plays("nothing is joined", Shapes.bare(10), 1, 9, 1, 0, 1, 0);
        FireNets x = Shapes.star(4);
        x.purse(1, 3);
        x.plan(1, 14);
        plays("all that is joined has guards", x, 1, 3, 1, 14, 1, 3);
    }

    /** The same: no fire on ten nodes lasts longer than ten ticks. */
    private static void overInTheLatestTick() {
        FireNets x = Shapes.path(10);
        plays("from an end", x, 1, 0, 1023, 0, 10, 0);
        plays("from the other one", x, 512, 0, 1023, 0, 10, 0);
        plays("from beside it", x, 2, 0, 1023, 0, 9, 0);
        DUE.is("by rule", Shapes.purses(Shapes.path(10), 0).live(0, 1, 2), 10);
        DUE.is("at best", Shapes.purses(Shapes.path(10), 0).best(1, 3), 10);
    }

    /** The same: what would be put behind that tick is not put, lawful or not. */
    private static void overBehindTheFirstTickWithoutFire() {
        FireNets x = Shapes.path(4);
        x.plan(1, 2);
        x.plan(2, 4);
        plays("lawful", x, 1, 3, 1, 2, 1, 1);
        x.plan(2, 1023);
        plays("not lawful", x, 1, 3, 1, 2, 1, 1);
    }

    /** "GUARDS are put ..; then all NODES .. burn": in the same tick guards come first. */
    private static void guardsBeforeTheFire() {
        FireNets x = Shapes.path(2);
        x.plan(1, 2);
        plays("in time", x, 1, 1, 1, 2, 1, 1);
        x.plan(1, 0);
        x.plan(2, 2);
        plays("too late", x, 1, NONE, 3, 0, 2, 0);
    }

    /** "SAVED: WORTHS of all NODES that do not burn": none, worth nothing, and the most. */
    private static void savedNothingAndMost() {
        FireNets x = Shapes.bare(10);
        DUE.is("all burn", x.play(1023, 0), 0);
        for (int k = 0; k < 10; k++) x.node(k, 0, 0);
        DUE.is("worth nothing", x.play(1, 0), 0);
        DUE.is("worth nothing at best", x.best(1, 0), 0);
        for (int k = 0; k < 10; k++) x.node(k, 0, 9);
        DUE.is("the most", x.play(1, 0), 81);
        DUE.is("the most at best", x.best(512, 0), 81);
        DUE.is("the most by rule", x.live(2, 512, 0), 81);
        x.node(9, 0, 0);
        DUE.is("a guarded node counts, too", x.play(1, 0), 72);
    }

    /** Promise 11: what = 0 to 3 and 3 and t (4 .. 11). */
    private static void bestWhats() {
        FireNets x = Shapes.path(3);
        for (int what : new int[] {-1, 12, 13, 32, LOW, HIGH}) {
            DUE.is("best(1, " + what + ")", x.best(1, what), OUTSIDE);
        }
        // Looks: {} {} {}; {} {2}; {1}, over by it; {2} {}.
        bests("the whats that there are", x, 1, 2, 7, 0, 1, 2, 0, 0, 0, 0, 0, 0, 0);
    }

    /** One node: the fire is over in tick 1 by the empty set, the only one that is lawful. */
    private static void bestOfOneNode() {
        bests("one node", new FireNets(), 1, 0, 1, 0, 1, 0, 0, 0, 0, 0, 0, 0, 0);
        FireNets x = Shapes.purses(new FireNets(), 20);
        bests("a full purse", x, 1, 0, 1, 0, 1, 0, 0, 0, 0, 0, 0, 0, 0);
    }

    /** "SETS that are lawful": where all nodes burn the empty set alone. */
    private static void bestWhereAllBurn() {
        FireNets x = Shapes.purses(Shapes.dense(10, 24), 20);
        bests("all burn", x, 1023, 0, 1, 0, 1, 0, 0, 0, 0, 0, 0, 0, 0);
        bests("all but one: {} {}; {9}", x, 511, 1, 3, 0, 1, 512);
    }

    /** "at most what the PURSE has": of an empty one nothing, a look each tick. */
    private static void bestOfAnEmptyPurse() {
        FireNets x = Shapes.purses(Shapes.path(4), 0);
        bests("nothing to spend", x, 1, 0, 4, 0, 4, 0, 0, 0, 0, 0, 0, 0, 0);
        bests("and nothing to do", x, 15, 0, 1, 0, 1, 0, 0, 0, 0, 0, 0, 0, 0);
        FireNets y = Shapes.purses(Shapes.path(4), 1);
        for (int k = 0; k < 4; k++) y.node(k, 1, 2);
        bests("all too dear by 1", y, 1, 0, 4, 0, 4, 0, 0, 0, 0, 0, 0, 0, 0);
    }

    /** "that with the greatest SAVED; of several the first that was sought". */
    private static void bestOfLikeOnes() {
        FireNets x = Shapes.bare(4);
        x.purse(1, 4);
        bests("nothing burns: the empty set is the first", x, 1, 3, 8, 0, 1, 0, 0);
        FireNets y = Shapes.star(4);
        y.purse(2, 0);
        bests("any one of three", y, 1, 1, 8, 0, 2, 2, 0);
        y.node(3, 0, 2);
        bests("a greater one comes later", y, 1, 2, 8, 0, 2, 8, 0);
        y.node(1, 0, 2);
        bests("as great as the first one", y, 1, 2, 8, 0, 2, 2, 0);
        FireNets z = Shapes.path(3);
        z.node(1, 0, 0);
        z.node(2, 0, 3);
        // {} and then {2} saves as much as {1} or {2} in tick 1.
        bests("later guards are sought first", z, 1, 3, 7, 0, 2, 0, 4, 0);
    }

    /** "SETS by rising numbers": the first of two that save as much has the lower number. */
    private static void bestTriesByRisingNumbers() {
        FireNets x = Shapes.star(10);
        x.purse(1, 2);
        x.purse(2, 0);
        x.node(1, 0, 4);
        x.node(8, 0, 4);
        x.node(4, 0, 4);
        x.node(5, 0, 4);
        DUE.is("saved", x.best(1, 0), 8);
        DUE.is("the lowest number of all pairs", x.best(1, 4), 2 + 16);
        x.node(1, 0, 3);
        DUE.is("the next pair", x.best(1, 4), 16 + 32);
        x.node(4, 0, 3);
        DUE.is("the last pair", x.best(1, 4), 32 + 256);
        // {4, 5} and {1, 8} cost 5 and save 8, no other set for 5 so much: 48 is less than 258.
        int[] worths = {1, 2, 0, 0, 4, 4, 0, 0, 6, 0};
        int[] prices = {1, 1, 9, 9, 2, 3, 9, 9, 4, 9};
        for (int k = 0; k < 10; k++) {
            x.node(k, 0, worths[k]);
            x.node(k, 1, prices[k]);
        }
        x.purse(1, 5);
        DUE.is("two pairs save", x.best(1, 0), 8);
        DUE.is("the lower number, not the lower first node", x.best(1, 4), 48);
    }

    /** The same: from the empty set to that of all nodes that are free. */
    private static void bestTriesTheEmptySetAndAllAtOnce() {
        FireNets x = Shapes.star(6);
        x.purse(1, 5);
        x.purse(2, 0);
        // Of 32 sets each but the last one is followed by the empty one of tick 2.
        bests("all five", x, 1, 5, 63, 0, 1, 62, 0);
        FireNets y = Shapes.bare(10);
        y.purse(1, 20);
        y.rule(1, 1000);
        bests("512 sets that do nothing", y, 1, 9, 512, 0, 1, 0, 0);
    }

    /** "each SET that is tried, lawful then, is a LOOK": those that are too dear are none. */
    private static void bestLooksAtWhatIsNotTooDear() {
        FireNets x = Shapes.bare(4);
        x.purse(1, 3);
        x.node(1, 1, 3);
        x.node(2, 1, 4);
        x.node(3, 1, 1);
        bests("{}, {1}, {3}", x, 1, 3, 3, 0, 1, 0);
        x.purse(1, 4);
        bests("and {2}, {1, 3}", x, 1, 3, 5, 0, 1, 0);
        x.purse(1, 7);
        bests("and {1, 2}, {2, 3}", x, 1, 3, 7, 0, 1, 0);
        x.purse(1, 8);
        bests("and all", x, 1, 3, 8, 0, 1, 0);
    }

    /** "what a TICK leaves of its PURSE comes to the next one's": all that was left till then. */
    private static void bestKeepingAsItIs() {
        FireNets x = Shapes.path(10);
        for (int k = 0; k < 10; k++) x.node(k, 1, 9);
        x.node(9, 1, 8);
        bests("eight times 1 is gone", x, 1, 0, 8, 0, 10, 0);
        x.rule(0, 1);
        bests("eight times 1 is 8", x, 1, 1, 9, 0, 9, 0, 0, 0, 0, 0, 0, 0, 512);
        x.node(9, 1, 9);
        bests("and not 9", x, 1, 0, 8, 0, 10, 0);
        x.rule(0, 0);
        x.node(9, 1, 8);
        bests("gone again", x, 1, 0, 8, 0, 10, 0);
    }

    /** "in TICKS 1 to 8": tick 8 is sought, too. */
    private static void bestInTick8() {
        FireNets x = Shapes.purses(Shapes.path(10), 0);
        x.purse(8, 1);
        bests("the last tick", x, 1, 2, 10, 0, 8, 0, 0, 0, 0, 0, 0, 0, 256);
        x.purse(8, 2);
        bests("both that are left", x, 1, 2, 11, 0, 8, 0, 0, 0, 0, 0, 0, 0, 256);
    }

    /** "a way that is not OVER behind TICK 8 goes on without GUARDS till it is". */
    private static void bestGoesOnBehindTick8() {
        FireNets x = Shapes.purses(Shapes.path(10), 0);
        bests("till tick 10", x, 1, 0, 8, 0, 10, 0, 0, 0, 0, 0, 0, 0, 0);
        bests("till tick 9", x, 2, 0, 8, 0, 9, 0, 0, 0, 0, 0, 0, 0, 0);
        bests("till tick 8", x, 4, 0, 8, 0, 8, 0, 0, 0, 0, 0, 0, 0, 0);
        bests("till tick 7", x, 8, 0, 7, 0, 7, 0, 0, 0, 0, 0, 0, 0, 0);
        x.node(8, 1, 9);
        x.purse(8, 8);
        bests("with guards on the last one", x, 1, 1, 9, 0, 9, 0, 0, 0, 0, 0, 0, 0, 512);
    }

    /** "SPENT .. where LOOKS would be above BOUND": as many as BOUND are not above it. */
    private static void spentAboveBound() {
        FireNets x = Shapes.star(9);
        x.purse(1, 8);
        x.purse(2, 0);
        x.rule(1, 511);
        bests("511 of 511", x, 1, 8, 511, 0, 1, 510);
        x.rule(1, 510);
        bests("510 of 511", x, 1, 7, 510, 1, 2, 254);
        x.rule(1, 512);
        bests("511 of 512", x, 1, 8, 511, 0, 1, 510);
        x.net(10);
        x.rule(1, 512);
        x.purse(1, 20);
        bests("512 of 512", x, 1, 9, 512, 0, 1, 0);
        x.rule(1, 511);
        bests("511 of 512", x, 1, 9, 511, 1, 1, 0);
    }

    /** "BOUND (50 .. 1000; 500 at first)": the search goes so far, and no farther. */
    private static void spentAtBound50And1000() {
        FireNets x = Shapes.star(10);
        x.purse(1, 9);
        x.purse(2, 0);
        bests("at first", x, 1, 7, 500, 1, 2, 254);
        x.rule(1, 50);
        bests("the least", x, 1, 4, 50, 1, 2, 30);
        x.rule(1, 1000);
        bests("the greatest", x, 1, 8, 1000, 1, 2, 510);
        x.rule(1, 1001);
        DUE.is("a refused one changes nothing", x.best(1, 1), 1000);
    }

    /** "all is told of what was sought till then": the way under the last look is not. */
    private static void spentTellsOfWhatWasSought() {
        FireNets x = Shapes.star(8);
        x.purse(1, 7);
        x.purse(2, 0);
        // Each set of tick 1 is followed by the empty one of tick 2, by which it is over: the sets
        // 0 to 62 by twos are the looks 1, 3 .. 63, their ends the looks 2, 4 .. 64.
        x.rule(1, 63);
        bests("{1 .. 5} is looked at, and its end is not", x, 1, 4, 63, 1, 2, 30);
        x.rule(1, 64);
        bests("its end is, too", x, 1, 5, 64, 1, 2, 62);
    }

    /** Promise 12: THE PLAN becomes THE BEST: in all its ticks. */
    private static void takeWritesAllTicks() {
        FireNets x = Shapes.purses(Shapes.path(10), 0);
        for (int tick = 1; tick <= 8; tick++) x.plan(tick, 1023);
        x.purse(1, 1);
        DUE.is("take", x.take(1), 9);
        DUE.is("tick 1", x.plan(1, 2), 2);
        for (int tick = 2; tick <= 8; tick++) DUE.is("tick " + tick, x.plan(tick, 0), 0);
        Shapes.purses(x, 0);
        x.purse(8, 1);
        DUE.is("take the last tick", x.take(1), 2);
        DUE.is("it is played", x.play(1, 0), 2);
        for (int tick = 1; tick <= 7; tick++) DUE.is("empty " + tick, x.plan(tick, 0), 0);
        DUE.is("tick 8", x.plan(8, 0), 256);
        Shapes.purses(x, 0);
        x.plan(8, 256);
        DUE.is("take nothing", x.take(1), 0);
        DUE.is("an empty plan", x.plan(8, 0), 0);
    }

    /** Promise 12: OUTSIDE, and THE PLAN stays. */
    private static void takeRefused() {
        FireNets x = Shapes.path(3);
        for (int tick = 1; tick <= 8; tick++) x.plan(tick, tick);
        for (int fire : new int[] {0, 8, -1, LOW, HIGH}) DUE.is("take of " + fire, x.take(fire), OUTSIDE);
        for (int tick = 1; tick <= 8; tick++) DUE.is("plan of " + tick, x.plan(tick, 0), tick);
    }

    /** "the least v (0 .. 20) ..; NONE". */
    private static void leastFrom0To20() {
        FireNets x = Shapes.star(4);
        for (int k = 1; k < 4; k++) x.node(k, 1, 9);
        DUE.is("0", x.least(1, 0), 0);
        DUE.is("8 is too little", x.least(1, 1), 9);
        DUE.is("17 is too little", x.least(1, 2), 18);
        DUE.is("27 is too much", x.least(1, 3), NONE);
        x.node(3, 1, 2);
        DUE.is("20", x.least(1, 3), 20);
        x.node(3, 1, 3);
        DUE.is("21", x.least(1, 3), NONE);
        DUE.is("more than there is", x.least(1, 4), NONE);
    }

    /** Promise 13: "OUTSIDE (wanted 0 .. 90)". */
    private static void leastOfWantedFrom0To90() {
        FireNets x = Shapes.bare(10);
        for (int k = 0; k < 10; k++) x.node(k, 0, 9);
        for (int wanted : new int[] {-1, 91, LOW, HIGH}) DUE.is("wanted " + wanted, x.least(1, wanted), OUTSIDE);
        DUE.is("wanted 0", x.least(1, 0), 0);
        DUE.is("wanted 81", x.least(1, 81), 0);
        DUE.is("wanted 82", x.least(1, 82), NONE);
        DUE.is("wanted 90", x.least(1, 90), NONE);
        DUE.is("wanted 0 where all burn", x.least(1023, 0), 0);
        DUE.is("wanted 1 where all burn", x.least(1023, 1), NONE);
    }

    /** "SAVES that or more". */
    private static void leastSavesThatOrMore() {
        FireNets x = Shapes.star(3);
        x.node(1, 0, 5);
        x.node(2, 0, 2);
        for (int wanted = 1; wanted <= 5; wanted++) DUE.is("wanted " + wanted, x.least(1, wanted), 1);
        for (int wanted = 6; wanted <= 7; wanted++) DUE.is("wanted " + wanted, x.least(1, wanted), 2);
        DUE.is("wanted 8", x.least(1, 8), NONE);
    }

    /** "THE BEST of what is sought": where the search is spent first, more is not found. */
    private static void leastOfWhatIsSought() {
        FireNets x = Shapes.star(10);
        x.rule(1, 1000);
        DUE.is("all nine are behind the bound", x.least(1, 9), NONE);
        FireNets y = Shapes.star(9);
        y.rule(1, 1000);
        DUE.is("all eight are not", y.least(1, 8), 8);
        y.rule(1, 510);
        DUE.is("but for a lower bound", y.least(1, 8), NONE);
    }

    /** "(KEEPING as it is)". */
    private static void leastKeepingAsItIs() {
        FireNets x = Shapes.path(4);
        x.node(1, 1, 9);
        x.node(2, 1, 8);
        x.node(3, 1, 9);
        DUE.is("without it", x.least(1, 1), 8);
        x.rule(0, 1);
        DUE.is("two ticks of 4, three of 3", x.least(1, 1), 3);
        DUE.is("two ticks of 4", x.least(1, 2), 4);
        DUE.is("one of 9", x.least(1, 3), 9);
        x.rule(0, 0);
        DUE.is("without it again", x.least(1, 2), 8);
    }

    /** Promise 13: "(PURSES stay.)" */
    private static void leastLeavesThePurses() {
        FireNets x = Shapes.path(4);
        for (int tick = 1; tick <= 8; tick++) x.purse(tick, tick);
        x.rule(0, 1);
        x.plan(1, 2);
        DUE.is("found", x.least(1, 3), 1);
        DUE.is("not found", x.least(1, 9), NONE);
        DUE.is("refused", x.least(0, 9), OUTSIDE);
        for (int tick = 1; tick <= 8; tick++) DUE.is("purse of " + tick, x.purse(tick, 1), tick);
        DUE.is("keeping stays", x.rule(0, 0), 1);
        DUE.is("the plan stays", x.plan(1, 0), 2);
    }
}
