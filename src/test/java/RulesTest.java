/** Promises 14 to 17: rules, their shares, the worst start and the mean over unsure ones. */
public final class RulesTest {
    private static final int OUTSIDE = FireNets.OUTSIDE;
    private static final int LOW = Integer.MIN_VALUE;
    private static final int HIGH = Integer.MAX_VALUE;

    private static final Due DUE = new Due("RulesTest");

    public static void main(String[] args) {
        liveByNumber();
        liveByWorth();
        liveByFreeNodes();
        freeNodesAreNeitherBurningNorGuarded();
        liveTooDear();
        liveKeeping();
        liveBehindTick8();
        shares();
        shareOfSpent();
        shareOfNothing();
        worstStart();
        worstOfLike();
        worstWhereNothingCanBeSaved();
        means();
        refused();
        DUE.close();
    }

    private static void lives(FireNets x, int rule, int fire, int... due) {
        for (int what = 0; what < due.length; what++) {
            DUE.is("live(" + rule + ", " + fire + ", " + what + ")", x.live(rule, fire, what), due[what]);
        }
    }

    /** Node 0 joined to 1, 2, 3; 1 to 4; 2 to 5 and 6; 3 to 7, 8 and 9. */
    private static FireNets broom() {
        FireNets x = new FireNets();
        x.net(10);
        int[] up = {0, 0, 0, 0, 1, 2, 2, 3, 3, 3};
        for (int k = 1; k < 10; k++) x.line(up[k], k);
        return x;
    }

    private static void liveByNumber() {
        FireNets x = broom();
        // 1 is guarded, 2 and 3 burn; 5 is guarded, 6 to 9 burn.
        lives(x, 0, 1, 3, 2 + 32, 3);
        x.purse(1, 2);
        lives(x, 0, 1, 6, 6 + 128, 3);
        x.purse(1, 3);
        lives(x, 0, 1, 9, 14, 1);
        x.purse(1, 0);
        x.purse(2, 0);
        lives(x, 0, 1, 0, 0, 3);
        lives(x, 0, 1023, 0, 0, 1);
    }

    private static void liveByWorth() {
        FireNets x = broom();
        lives(x, 1, 1, 3, 2 + 32, 3);
        x.node(2, 0, 3);
        x.node(9, 0, 2);
        lives(x, 1, 1, 3 + 2 + 2, 4 + 512, 3);
        x.node(3, 0, 3);
        lives(x, 1, 1, 3 + 2 + 2, 4 + 512, 3);
        x.node(3, 0, 4);
        lives(x, 1, 1, 4 + 4 + 1, 8 + 16, 3);
    }

    private static void liveByFreeNodes() {
        FireNets x = broom();
        lives(x, 2, 1, 4 + 1, 8 + 16, 3);
        x.purse(1, 2);
        lives(x, 2, 1, 4 + 3 + 1, 8 + 4 + 16, 2);
        // Guards count no more: nodes 1 and 2 are joined to 3, which is guarded first, and then
        // node 1 has one free node, as has 2 at last.
        FireNets y = new FireNets();
        y.net(7);
        y.line(0, 1);
        y.line(0, 2);
        y.line(0, 3);
        y.line(2, 3);
        y.line(3, 4);
        y.line(3, 5);
        y.line(1, 6);
        lives(y, 2, 1, 4, 8 + 64, 2);
        y.purse(1, 2);
        lives(y, 2, 1, 5, 8 + 2, 2);
        lives(y, 2, 17, 4, 8 + 2, 2);
    }

    private static void freeNodesAreNeitherBurningNorGuarded() {
        FireNets x = new FireNets();
        x.net(8);
        x.line(0, 1);
        x.line(5, 1);
        x.line(6, 1);
        x.line(0, 2);
        x.line(3, 2);
        x.line(4, 2);
        // From 0 and 5: of node 1's three but 6 is free, of node 2's 3 and 4.
        lives(x, 2, 33, 5, 4 + 64, 2);
        x.net(9);
        x.line(0, 1);
        x.line(0, 2);
        x.line(0, 3);
        x.line(1, 3);
        x.line(2, 4);
        x.line(3, 5);
        x.line(3, 6);
        x.purse(1, 2);
        // Node 3 is guarded first: then node 1 has no free one, and node 2 has 4.
        lives(x, 2, 1, 7, 4 + 8, 2);
    }

    private static void liveTooDear() {
        FireNets x = broom();
        x.node(1, 1, 2);
        // 1 is too dear: the next one by its number.
        lives(x, 0, 1, 3 + 1, 4 + 16, 3);
        x.purse(1, 3);
        lives(x, 0, 1, 2 + 3 + 1, 2 + 4 + 128, 3);
        x.node(3, 1, 4);
        lives(x, 2, 1, 2 + 3 + 1, 2 + 4 + 128, 3);
        for (int k = 0; k < 10; k++) x.node(k, 1, 9);
        lives(x, 0, 1, 0, 0, 3);
    }

    private static void liveKeeping() {
        FireNets x = broom();
        for (int k = 0; k < 10; k++) x.node(k, 1, 2);
        lives(x, 0, 1, 0, 0, 3);
        x.rule(0, 1);
        lives(x, 0, 1, 1, 16, 3);
        lives(x, 2, 16, 8, 1, 2);
    }

    private static void liveBehindTick8() {
        // A row of ten: in tick 9 the purse is that of tick 8.
        FireNets x = new FireNets();
        x.net(10);
        for (int k = 0; k < 9; k++) x.line(k, k + 1);
        for (int tick = 1; tick <= 8; tick++) x.purse(tick, 0);
        lives(x, 0, 1, 0, 0, 10);
        x.node(8, 1, 5);
        x.purse(8, 4);
        lives(x, 0, 1, 1, 512, 9);
        x.node(9, 1, 8);
        lives(x, 0, 1, 0, 0, 10);
        x.rule(0, 1);
        lives(x, 0, 1, 1, 512, 9);
    }

    private static void shares() {
        FireNets x = broom();
        // Rule 0 saves 1, 4 and 5; the best 3 and its leaves, and one leaf more.
        DUE.is("best", x.best(1, 0), 5);
        DUE.is("upper", x.share(0, 1, 0), 3);
        DUE.is("lower", x.share(0, 1, 1), 5);
        DUE.is("upper of all", x.share(2, 1, 0), 1);
        DUE.is("lower of all", x.share(2, 1, 1), 1);
        x.node(1, 0, 3);
        x.node(9, 0, 3);
        // Rule 0 saves 5; the best 6 with 3, and a leaf.
        DUE.is("prime already, upper", x.share(0, 1, 0), 5);
        DUE.is("prime already, lower", x.share(0, 1, 1), 7);
        x.node(1, 0, 1);
        x.node(9, 0, 5);
        // 3 of 8 + 1: a third.
        DUE.is("best of these", x.best(1, 0), 9);
        DUE.is("a third, upper", x.share(0, 1, 0), 1);
        DUE.is("a third, lower", x.share(0, 1, 1), 3);
    }

    private static void shareOfSpent() {
        // A search that is spent early may save less than a rule: the share is above 1.
        FireNets x = new FireNets();
        x.net(10);
        for (int k = 1; k < 10; k++) x.line(0, k);
        x.rule(1, 50);
        x.purse(1, 9);
        x.purse(2, 0);
        DUE.is("best that is sought", x.best(1, 0), 4);
        DUE.is("above 1, upper", x.share(0, 1, 0), 9);
        DUE.is("above 1, lower", x.share(0, 1, 1), 4);
    }

    private static void shareOfNothing() {
        FireNets x = new FireNets();
        x.net(2);
        x.line(0, 1);
        x.purse(1, 0);
        DUE.is("nothing is saved, upper", x.share(0, 1, 0), 1);
        DUE.is("nothing is saved, lower", x.share(0, 1, 1), 1);
        x.net(5);
        x.line(0, 1);
        for (int k = 0; k < 5; k++) x.node(k, 0, 0);
        x.node(1, 0, 6);
        x.purse(1, 1);
        x.node(2, 0, 0);
        DUE.is("rule saves all", x.share(0, 1, 0), 1);
        x.line(0, 2);
        // Rule 0 guards 1; if only 2 is worth something the rule saves nothing of it.
        x.node(1, 0, 0);
        x.node(2, 0, 6);
        DUE.is("nothing of something, upper", x.share(0, 1, 0), 0);
        DUE.is("nothing of something, lower", x.share(0, 1, 1), 1);
        x.node(2, 0, 1);
        DUE.is("nothing of 1", x.share(0, 1, 0), 0);
    }

    private static void worstWhereNothingCanBeSaved() {
        FireNets x = new FireNets();
        x.net(2);
        x.line(0, 1);
        x.node(1, 0, 0);
        // From 0 nothing can be saved, from 1 all is: both shares are 1.
        DUE.is("the first of like ones", x.worst(0), 0);
        x.node(0, 0, 0);
        x.node(1, 0, 1);
        DUE.is("nor is the second one worse", x.worst(0), 0);
        x.net(5);
        x.line(3, 0);
        x.line(3, 1);
        x.line(3, 2);
        x.line(1, 4);
        for (int k = 1; k < 5; k++) x.node(k, 0, 0);
        // From 3 rule 2 guards 1, and 0, which alone is worth something, is lost.
        DUE.is("worth 1", x.worst(2), 3);
        x.node(0, 0, 9);
        DUE.is("worth 9", x.worst(2), 3);
        DUE.is("from 0 the share is 1", x.share(2, 1, 0), 1);
    }

    private static void worstStart() {
        FireNets x = broom();
        // From 0 rule 0 saves 3 of 5; from any other node it is nearer to the best.
        DUE.is("rule 0", x.worst(0), 0);
        x.net(4);
        x.line(3, 0);
        x.line(3, 1);
        x.line(3, 2);
        x.node(2, 0, 5);
        // From 3 rule 0 saves 1 of 5; from any other node it guards 3 and saves all.
        DUE.is("the last node", x.worst(0), 3);
        DUE.is("by worth none is worse", x.worst(1), 0);
        x.node(3, 1, 2);
        // Now 3 is too dear: from 0 rule 0 saves 1 (the best 6), from 3 still 1 of 5.
        DUE.is("from 0", x.live(0, 1, 0), 1);
        DUE.is("now the first node", x.worst(0), 0);
    }

    private static void worstOfLike() {
        FireNets x = new FireNets();
        x.net(6);
        // Two nets of the same form: 1 with 0 and 2, 4 with 3 and 5; the last leaf is worth more.
        x.line(1, 0);
        x.line(1, 2);
        x.line(4, 3);
        x.line(4, 5);
        x.node(2, 0, 3);
        x.node(5, 0, 3);
        DUE.is("the first of like ones", x.worst(0), 1);
        x.node(5, 0, 9);
        // From 4: 1 + 5 of 9 + 5; from 1: 1 + 11 of 3 + 11.
        DUE.is("share from 4", x.share(0, 16, 0) * 100 + x.share(0, 16, 1), 307);
        DUE.is("the worse one", x.worst(0), 4);
        x.net(1);
        DUE.is("the only one", x.worst(2), 0);
    }

    private static void means() {
        FireNets x = broom();
        // From 0: 3 by rule 0; from 9: node 3 is guarded, and 9 saved.
        DUE.is("one start", x.mean(0, 1, 0), 3);
        DUE.is("one start, lower", x.mean(0, 1, 1), 1);
        DUE.is("two starts", x.mean(0, 513, 0), 6);
        DUE.is("two starts, lower", x.mean(0, 513, 1), 1);
        // From 1: node 0 is guarded, 4 burns: 8.
        DUE.is("half, upper", x.mean(0, 3, 0), 11);
        DUE.is("half, lower", x.mean(0, 3, 1), 2);
        DUE.is("three, upper", x.mean(0, 515, 0), 20);
        DUE.is("three, lower", x.mean(0, 515, 1), 3);
        for (int tick = 1; tick <= 8; tick++) x.purse(tick, 0);
        DUE.is("nothing, upper", x.mean(0, 3, 0), 0);
        DUE.is("nothing, lower", x.mean(0, 3, 1), 1);
    }

    private static void refused() {
        FireNets x = broom();
        for (int rule : new int[] {-1, 3, LOW, HIGH}) {
            DUE.is("live by " + rule, x.live(rule, 1, 0), OUTSIDE);
            DUE.is("share of " + rule, x.share(rule, 1, 0), OUTSIDE);
            DUE.is("worst of " + rule, x.worst(rule), OUTSIDE);
            DUE.is("mean of " + rule, x.mean(rule, 1, 0), OUTSIDE);
        }
        for (int fire : new int[] {0, 1024, -1, LOW, HIGH}) {
            DUE.is("live of fire " + fire, x.live(0, fire, 0), OUTSIDE);
            DUE.is("share of fire " + fire, x.share(0, fire, 0), OUTSIDE);
            DUE.is("mean of starts " + fire, x.mean(0, fire, 0), OUTSIDE);
        }
        DUE.is("live what 3", x.live(0, 1, 3), OUTSIDE);
        DUE.is("live what -1", x.live(0, 1, -1), OUTSIDE);
        DUE.is("share what 2", x.share(0, 1, 2), OUTSIDE);
        DUE.is("share what -1", x.share(0, 1, -1), OUTSIDE);
        DUE.is("mean what 2", x.mean(0, 1, 2), OUTSIDE);
        DUE.is("mean what -1", x.mean(0, 1, -1), OUTSIDE);
    }
}
