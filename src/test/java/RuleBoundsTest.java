/**
 * The boundary cases of part 3 of the document and of promises 14 to 17: a test for each sentence
 * that names one.
 */
public final class RuleBoundsTest {
    private static final int OUTSIDE = FireNets.OUTSIDE;
    private static final int LOW = Integer.MIN_VALUE;
    private static final int HIGH = Integer.MAX_VALUE;

    private static final Due DUE = new Due("RuleBoundsTest");

    public static void main(String[] args) {
        rules0To2();
        firesOfAllSets();
        whatsOfEach();
        noNodeMayBurn();
        onlyNodesThatMayBurn();
        againAndAgainTillNoneMayBurn();
        asLongAsThereIsOneThatIsNotTooDear();
        anEmptyPurse();
        likeOnesByNumber();
        worthOf0And9();
        noFreeNodesToCount();
        purseInTheFirstTickAndBehindTick8();
        shareWhereTheBestSavesNothing();
        shareOfNothing();
        shareOfAll();
        shareInLeastTerms();
        shareOfGreatestNumbers();
        shareOfASpentSearch();
        worstOfOneNode();
        worstOfLikeOnes();
        worstOfLikeSharesInOtherTerms();
        worstIsTheLastNode();
        worstWhereAShareIs1ForNothing();
        meanOfOneStart();
        meanOfAllStarts();
        meanOfNothing();
        meanInLeastTerms();
        ruleLeavesAllAsItWas();
        DUE.close();
    }

    private static void lives(String when, FireNets x, int rule, int fire, int... due) {
        for (int what = 0; what < due.length; what++) {
            DUE.is(when + ": live(" + rule + ", " + fire + ", " + what + ")", x.live(rule, fire, what), due[what]);
        }
    }

    private static void shares(String when, FireNets x, int rule, int fire, int upper, int lower) {
        DUE.is(when + ": upper of share", x.share(rule, fire, 0), upper);
        DUE.is(when + ": lower of share", x.share(rule, fire, 1), lower);
    }

    private static void means(String when, FireNets x, int rule, int starts, int upper, int lower) {
        DUE.is(when + ": upper of mean", x.mean(rule, starts, 0), upper);
        DUE.is(when + ": lower of mean", x.mean(rule, starts, 1), lower);
    }

    /** Promise 14: "a RULE (0 .. 2)", for every call of a rule. */
    private static void rules0To2() {
        FireNets x = Shapes.path(3);
        for (int rule : new int[] {-1, 3, 32, 33, LOW, LOW + 1, HIGH}) {
            DUE.is("live by " + rule, x.live(rule, 1, 0), OUTSIDE);
            DUE.is("share by " + rule, x.share(rule, 1, 0), OUTSIDE);
            DUE.is("worst by " + rule, x.worst(rule), OUTSIDE);
            DUE.is("mean by " + rule, x.mean(rule, 1, 0), OUTSIDE);
        }
        for (int rule = 0; rule <= 2; rule++) {
            DUE.is("live by " + rule, x.live(rule, 1, 0), 2);
            DUE.is("share by " + rule, x.share(rule, 1, 0), 1);
            DUE.is("worst by " + rule, x.worst(rule), 0);
            DUE.is("mean by " + rule, x.mean(rule, 1, 0), 2);
        }
    }

    /** Promises 14, 15 and 17: fires and starts 1 to 2^n - 1, of each n. */
    private static void firesOfAllSets() {
        for (int n = 1; n <= 10; n++) {
            FireNets x = Shapes.bare(n);
            for (int fire : new int[] {0, 1 << n, (1 << n) + 1, -1, 1 << 30, LOW, LOW + 1, HIGH}) {
                DUE.is("live of " + fire, x.live(0, fire, 0), OUTSIDE);
                DUE.is("share of " + fire, x.share(0, fire, 0), OUTSIDE);
                DUE.is("mean of " + fire, x.mean(0, fire, 0), OUTSIDE);
            }
            for (int fire : new int[] {1, 1 << n - 1, (1 << n) - 1}) {
                DUE.is("live of " + fire, x.live(0, fire, 0), n - Integer.bitCount(fire));
                DUE.is("share of " + fire, x.share(0, fire, 0), 1);
                DUE.is("mean of " + fire, x.mean(0, fire, 0), n - 1);
            }
        }
    }

    /** Promises 14, 15, 17: what = 0 to 2, and 0 to 1. */
    private static void whatsOfEach() {
        FireNets x = Shapes.path(3);
        for (int what : new int[] {-1, 3, 32, LOW, HIGH}) DUE.is("live " + what, x.live(0, 1, what), OUTSIDE);
        for (int what : new int[] {-1, 2, 32, LOW, HIGH}) {
            DUE.is("share " + what, x.share(0, 1, what), OUTSIDE);
            DUE.is("mean " + what, x.mean(0, 1, what), OUTSIDE);
        }
        lives("the whats that there are", x, 0, 1, 2, 2, 1);
    }

    /** "of NODES that may burn in this TICK": there is none. */
    private static void noNodeMayBurn() {
        for (int rule = 0; rule <= 2; rule++) {
            lives("one node", Shapes.purses(new FireNets(), 20), rule, 1, 0, 0, 1);
            lives("no lines", Shapes.purses(Shapes.bare(10), 20), rule, 1, 9, 0, 1);
            lives("all burn", Shapes.purses(Shapes.dense(10, 24), 20), rule, 1023, 0, 0, 1);
        }
    }

    /** The same: one that may burn but later gets none, for all that is left in the purse. */
    private static void onlyNodesThatMayBurn() {
        FireNets x = Shapes.purses(Shapes.path(5), 20);
        for (int rule = 0; rule <= 2; rule++) lives("the next one alone", x, rule, 1, 4, 2, 1);
        x.node(1, 1, 9);
        x.purse(1, 8);
        for (int rule = 0; rule <= 2; rule++) lives("and if it is too dear, in tick 2", x, rule, 1, 3, 4, 2);
    }

    /** "again and again": till all have guards. */
    private static void againAndAgainTillNoneMayBurn() {
        FireNets x = Shapes.star(10);
        x.purse(1, 9);
        for (int rule = 0; rule <= 2; rule++) lives("all nine", x, rule, 1, 9, 1022, 1);
        x.purse(1, 8);
        for (int rule = 0; rule <= 2; rule++) lives("all but one", x, rule, 1, 8, 510, 2);
        x.purse(1, 20);
        for (int rule = 0; rule <= 2; rule++) lives("more than there are", x, rule, 1, 9, 1022, 1);
    }

    /** "as long as there is one that is not too dear": the next one is tried where the first is. */
    private static void asLongAsThereIsOneThatIsNotTooDear() {
        FireNets x = Shapes.star(4);
        int[] prices = {1, 5, 3, 2};
        for (int k = 0; k < 4; k++) x.node(k, 1, prices[k]);
        // 5 for node 1, 3 for node 2, 2 for node 3: what is left is for the next one that it pays.
        int[] guards = {0, 0, 8, 4, 4, 2, 2, 2 + 8, 2 + 4, 2 + 4, 14, 14};
        for (int purse = 0; purse < guards.length; purse++) {
            x.purse(1, purse);
            DUE.is("guards for " + purse, x.live(0, 1, 1), guards[purse]);
        }
        x.purse(1, 5);
        x.node(1, 1, 6);
        DUE.is("by 1 too dear: both of the others", x.live(0, 1, 1), 12);
    }

    /** The same, of a purse of 0, and of one that is 1 too little. */
    private static void anEmptyPurse() {
        FireNets x = Shapes.purses(Shapes.star(10), 0);
        for (int rule = 0; rule <= 2; rule++) lives("nothing to spend", x, rule, 1, 0, 0, 2);
        Shapes.purses(x, 8);
        for (int k = 0; k < 10; k++) x.node(k, 1, 9);
        for (int rule = 0; rule <= 2; rule++) lives("8 for 9", x, rule, 1, 0, 0, 2);
        x.purse(1, 9);
        for (int rule = 0; rule <= 2; rule++) lives("9 for 9", x, rule, 1, 1, 2, 2);
    }

    /** "of like ones the least number". */
    private static void likeOnesByNumber() {
        FireNets x = Shapes.star(10);
        for (int rule = 0; rule <= 2; rule++) lives("all are like", x, rule, 1, 1, 2, 2);
        x.node(9, 0, 5);
        x.node(8, 0, 5);
        lives("two of the greatest worth", x, 1, 1, 5, 256, 2);
        FireNets y = Shapes.bare(10);
        int[][] lines = {{0, 3}, {0, 1}, {0, 2}, {3, 4}, {3, 5}, {2, 6}, {2, 7}, {1, 8}};
        for (int[] line : lines) y.line(line[0], line[1]);
        DUE.is("two with two free nodes each", y.live(2, 1, 1) & 14, 4);
    }

    /** "the greatest WORTH": 0 and 9 are worths, too. */
    private static void worthOf0And9() {
        FireNets x = Shapes.star(4);
        for (int k = 1; k < 4; k++) x.node(k, 0, 0);
        lives("all are worth 0", x, 1, 1, 0, 2, 2);
        x.node(3, 0, 1);
        lives("the last one is worth 1", x, 1, 1, 1, 8, 2);
        x.node(2, 0, 9);
        lives("one is worth 9", x, 1, 1, 9, 4, 2);
    }

    /** "the most NODES that neither burn nor have GUARDS joined to it": none is a number, too. */
    private static void noFreeNodesToCount() {
        FireNets x = Shapes.star(4);
        lives("0 each", x, 2, 1, 1, 2, 2);
        x.line(3, 2);
        lives("1 each of 2 and 3", x, 2, 1, 1, 4, 2);
        x.purse(1, 2);
        lives("and behind 2 none", x, 2, 1, 2, 6, 2);
        lives("what burns does not count", x, 2, 5, 2, 10, 1);
    }

    /** "of later TICKS that of TICK 8": the first tick has its own, and those behind 8 that of 8. */
    private static void purseInTheFirstTickAndBehindTick8() {
        FireNets x = Shapes.purses(Shapes.path(10), 0);
        for (int k = 1; k < 9; k++) x.node(k, 1, 9);
        for (int rule = 0; rule <= 2; rule++) lives("none", x, rule, 1, 0, 0, 10);
        x.purse(1, 9);
        for (int rule = 0; rule <= 2; rule++) lives("tick 1", x, rule, 1, 9, 2, 1);
        x.purse(1, 0);
        x.purse(8, 1);
        for (int rule = 0; rule <= 2; rule++) lives("tick 9", x, rule, 1, 1, 512, 9);
        x.rule(0, 1);
        x.node(9, 1, 2);
        for (int rule = 0; rule <= 2; rule++) lives("what tick 8 left, in tick 9", x, rule, 1, 1, 512, 9);
    }

    /** "(1, if that is 0)": both numbers of the fraction. */
    private static void shareWhereTheBestSavesNothing() {
        for (int rule = 0; rule <= 2; rule++) {
            shares("one node", new FireNets(), rule, 1, 1, 1);
            shares("all burn", Shapes.bare(10), rule, 1023, 1, 1);
            shares("nothing to spend", Shapes.purses(Shapes.path(4), 0), rule, 1, 1, 1);
            FireNets x = Shapes.path(2);
            x.node(1, 0, 0);
            shares("what is saved is worth nothing", x, rule, 1, 1, 1);
        }
    }

    /** "fractions are in least terms, the lower number above 0": 0 is 0 / 1. */
    private static void shareOfNothing() {
        FireNets x = Shapes.star(3);
        x.node(1, 0, 0);
        x.node(2, 0, 8);
        shares("0 of 8", x, 0, 1, 0, 1);
        x.node(2, 0, 1);
        shares("0 of 1", x, 0, 1, 0, 1);
        shares("8 of 8 is 1", x, 1, 1, 1, 1);
    }

    /** The same: all that the best saves is 1 / 1. */
    private static void shareOfAll() {
        FireNets x = Shapes.bare(10);
        for (int k = 0; k < 10; k++) x.node(k, 0, 9);
        for (int rule = 0; rule <= 2; rule++) shares("81 of 81", x, rule, 512, 1, 1);
    }

    /** The same: 4 of 6, 3 of 6, 5 of 6. */
    private static void shareInLeastTerms() {
        FireNets x = Shapes.star(3);
        x.node(2, 0, 6);
        x.node(1, 0, 4);
        shares("4 of 6", x, 0, 1, 2, 3);
        x.node(1, 0, 3);
        shares("3 of 6", x, 0, 1, 1, 2);
        x.node(1, 0, 5);
        shares("5 of 6", x, 0, 1, 5, 6);
        x.node(1, 0, 6);
        shares("6 of 6", x, 0, 1, 1, 1);
        x.node(1, 0, 1);
        shares("1 of 6", x, 0, 1, 1, 6);
    }

    /** The same, of great numbers: 8 and 63 of 9 and 63. */
    private static void shareOfGreatestNumbers() {
        FireNets x = Shapes.bare(10);
        for (int k = 0; k < 10; k++) x.node(k, 0, 9);
        x.line(0, 1);
        x.line(0, 2);
        x.node(1, 0, 8);
        shares("71 of 72", x, 0, 1, 71, 72);
    }

    /** "that of THE BEST" of what was sought: where that is spent, a rule may save more. */
    private static void shareOfASpentSearch() {
        FireNets x = Shapes.star(10);
        x.purse(1, 9);
        x.purse(2, 0);
        shares("9 of 7", x, 0, 1, 9, 7);
        x.rule(1, 50);
        shares("9 of 4", x, 0, 1, 9, 4);
    }

    /** "of all NODES, as the only start": of one the one. */
    private static void worstOfOneNode() {
        for (int rule = 0; rule <= 2; rule++) {
            DUE.is("one node", new FireNets().worst(rule), 0);
            FireNets x = new FireNets();
            x.node(0, 0, 0);
            DUE.is("one node that is worth nothing", x.worst(rule), 0);
        }
    }

    /** "of like ones the least". */
    private static void worstOfLikeOnes() {
        for (int rule = 0; rule <= 2; rule++) {
            DUE.is("all save all", Shapes.bare(10).worst(rule), 0);
            FireNets x = Shapes.bare(10);
            for (int k = 0; k < 10; k++) x.node(k, 0, 0);
            DUE.is("there is nothing to save", x.worst(rule), 0);
        }
        FireNets y = twoStars(0, 2, 0, 2);
        DUE.is("0 of 2, twice", y.worst(0), 1);
    }

    /** Nodes 1 and 4 between two others each, of these worths. */
    private static FireNets twoStars(int a, int b, int c, int d) {
        FireNets x = Shapes.bare(6);
        x.line(1, 0);
        x.line(1, 2);
        x.line(4, 3);
        x.line(4, 5);
        int[] worths = {a, 0, b, c, 0, d};
        for (int k = 0; k < 6; k++) x.node(k, 0, worths[k]);
        return x;
    }

    /** The same: shares are like ones by what they are, not by how they come about. */
    private static void worstOfLikeSharesInOtherTerms() {
        // From 1 all but 5 is saved, of 15; from 4 all but 4, of 12.
        DUE.is("10 of 15 and 8 of 12", twoStars(0, 5, 3, 7).worst(0), 1);
        DUE.is("8 of 12 and 10 of 15", twoStars(3, 7, 0, 5).worst(0), 1);
        DUE.is("11 of 16 and 8 of 13", twoStars(0, 5, 3, 8).worst(0), 4);
        DUE.is("9 of 14 and 8 of 11", twoStars(0, 5, 3, 6).worst(0), 1);
        FireNets x = twoStars(0, 5, 3, 7);
        shares("10 of 15", x, 0, 2, 2, 3);
        shares("8 of 12", x, 0, 16, 2, 3);
    }

    /** The same: the last one may be it. */
    private static void worstIsTheLastNode() {
        FireNets x = Shapes.bare(10);
        x.line(9, 0);
        x.line(9, 8);
        x.node(8, 0, 9);
        DUE.is("node 9", x.worst(0), 9);
        DUE.is("by worth none is worse", x.worst(1), 0);
    }

    /** "(1, if that is 0)": such a start is no worse than one of which all is saved. */
    private static void worstWhereAShareIs1ForNothing() {
        FireNets x = Shapes.path(2);
        x.node(1, 0, 0);
        DUE.is("the first one, for nothing", x.worst(0), 0);
        x.node(1, 0, 1);
        x.node(0, 0, 0);
        DUE.is("the first one, for all", x.worst(0), 0);
        FireNets y = twoStars(0, 0, 0, 3);
        for (int k = 0; k < 4; k++) y.node(k, 0, 0);
        DUE.is("0 of 3 is worse than 1", y.worst(0), 4);
        y.node(5, 0, 1);
        DUE.is("0 of 1 is, too", y.worst(0), 4);
    }

    /** "at any single NODE of a SET": of one its saved by 1. */
    private static void meanOfOneStart() {
        for (int n = 1; n <= 10; n++) {
            FireNets x = Shapes.bare(n);
            for (int k = 0; k < n; k++) means("node " + k + " of " + n, x, 1, 1 << k, n - 1, 1);
        }
    }

    /** Promise 17: "(1 .. 2^n - 1)": all of them. */
    private static void meanOfAllStarts() {
        FireNets x = Shapes.bare(10);
        means("nine each", x, 0, 1023, 9, 1);
        x.line(0, 1);
        x.purse(1, 0);
        x.purse(2, 0);
        means("8 from two, 9 from eight", x, 0, 1023, 44, 5);
        for (int k = 0; k < 10; k++) x.node(k, 0, 9);
        means("the most", x, 0, 1020, 81, 1);
        DUE.is("one more bit", x.mean(0, 1024, 0), OUTSIDE);
    }

    /** "fractions are in least terms, the lower number above 0": 0 is 0 / 1. */
    private static void meanOfNothing() {
        FireNets x = Shapes.purses(Shapes.path(10), 0);
        means("nothing is saved", x, 0, 1023, 0, 1);
        means("one node", new FireNets(), 2, 1, 0, 1);
    }

    /** The same: 1 of 2, 2 of 4, 2 of 3. */
    private static void meanInLeastTerms() {
        FireNets x = Shapes.purses(Shapes.bare(4), 0);
        for (int k = 0; k < 4; k++) x.node(k, 0, 0);
        x.node(0, 0, 1);
        means("0 and 1", x, 0, 3, 1, 2);
        means("1 and 1", x, 0, 6, 1, 1);
        means("0, 1 and 1", x, 0, 7, 2, 3);
        means("0, 1, 1 and 1", x, 0, 15, 3, 4);
        x.node(1, 0, 1);
        means("1, 1, 2 and 2", x, 0, 15, 3, 2);
    }

    /** What a rule does, and what is sought beside it, is told alone: the plan and the purses stay. */
    private static void ruleLeavesAllAsItWas() {
        FireNets x = Shapes.star(4);
        x.plan(1, 8);
        for (int rule = 0; rule <= 2; rule++) {
            x.live(rule, 1, 1);
            x.share(rule, 1, 0);
            x.worst(rule);
            x.mean(rule, 15, 0);
        }
        DUE.is("plan", x.plan(1, 0), 8);
        for (int tick = 1; tick <= 8; tick++) DUE.is("purse of " + tick, x.purse(tick, 1), 1);
        DUE.is("worths", x.count(2), 4);
    }
}
