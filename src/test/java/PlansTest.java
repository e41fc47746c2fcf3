/** Promises 8 to 13: plans, their plays, the best one and the least purse. */
public final class PlansTest {
    private static final int NONE = FireNets.NONE;
    private static final int OUTSIDE = FireNets.OUTSIDE;
    private static final int LOW = Integer.MIN_VALUE;
    private static final int HIGH = Integer.MAX_VALUE;

    private static final Due DUE = new Due("PlansTest");

    public static void main(String[] args) {
        planSets();
        playOfPlan();
        playLongerThanPlan();
        playBad();
        playBadFor();
        playKeeping();
        playRefused();
        burnsBehindTicks();
        bestOfPath();
        bestIsFirstOfLike();
        bestLeavesNothingBehindItsEnd();
        bestPassesDearSets();
        bestKeeping();
        bestSpent();
        bestBehindTick8();
        bestRefused();
        takeBest();
        leastPurse();
        leastRefused();
        DUE.close();
    }

    private static void plays(FireNets x, int fire, int... due) {
        for (int what = 0; what < due.length; what++) {
            DUE.is("play(" + fire + ", " + what + ")", x.play(fire, what), due[what]);
        }
    }

    private static void bests(FireNets x, int fire, int... due) {
        for (int what = 0; what < due.length; what++) {
            DUE.is("best(" + fire + ", " + what + ")", x.best(fire, what), due[what]);
        }
    }

    private static void planSets() {
        FireNets x = new FireNets();
        for (int tick = 1; tick <= 8; tick++) DUE.is("plan " + tick, x.plan(tick, 1023 - tick), 0);
        for (int tick = 1; tick <= 8; tick++) DUE.is("was " + tick, x.plan(tick, 1023), 1023 - tick);
        DUE.is("tick 0", x.plan(0, 1), OUTSIDE);
        DUE.is("tick 9", x.plan(9, 1), OUTSIDE);
        DUE.is("tick far off", x.plan(HIGH, 1), OUTSIDE);
        DUE.is("set -1", x.plan(1, -1), OUTSIDE);
        DUE.is("set 1024", x.plan(1, 1024), OUTSIDE);
        DUE.is("stays", x.plan(1, 0), 1023);
        DUE.is("empty", x.plan(1, 0), 0);
    }

    private static void playOfPlan() {
        FireNets x = Shapes.path(6);
        x.node(5, 0, 4);
        x.node(4, 1, 3);
        x.purse(2, 3);
        x.plan(2, 16);
        // Node 1 burns, then 2 (4 is guarded in that tick), then 3; in tick 4 nothing.
        plays(x, 1, 5, 15, 16, 4, 3);
        // From the other end it is too late for node 4.
        plays(x, 32, NONE, 48, 0, 2, 0);
        // Node 4 is lost to the fire's start itself.
        plays(x, 16, NONE, 56, 0, 2, 0);
        x.plan(1, 2);
        plays(x, 1, 8, 1, 2, 1, 1);
        plays(x, 4, 7, 12, 18, 2, 4);
        plays(x, 5, 6, 13, 18, 2, 4);
    }

    private static void playLongerThanPlan() {
        FireNets x = Shapes.path(10);
        plays(x, 1, 0, 1023, 0, 10, 0);
        x.plan(8, 512);
        plays(x, 1, 1, 511, 512, 9, 1);
        x.plan(8, 0);
        x.purse(8, 20);
        plays(x, 1, 0, 1023, 0, 10, 0);
        // Two starts that meet in the middle.
        plays(x, 513, 0, 1023, 0, 5, 0);
    }

    private static void playBad() {
        FireNets x = Shapes.path(6);
        x.plan(1, 4);
        x.plan(2, 4);
        // Node 2 has guards already: nothing more burns from tick 1 on in node 0's fire.
        plays(x, 1, NONE, 3, 4, 2, 1);
        DUE.is("burns behind the bad one", x.burns(1, 2), 3);
        DUE.is("burns long behind it", x.burns(1, 20), 3);
        x.plan(1, 2);
        // Over in tick 1: the bad set of tick 2 is never put.
        x.plan(2, 1023);
        plays(x, 1, 4 + 1, 1, 2, 1, 1);
        // From node 3 the fire goes on, and tick 2 is bad.
        plays(x, 8, NONE, 8 + 4 + 16, 2, 2, 1);
    }

    private static void playBadFor() {
        FireNets x = Shapes.path(6);
        x.purse(1, 20);
        x.plan(1, 64);
        plays(x, 1, NONE, 1, 0, 1, 0);
        x.plan(1, 512 + 2);
        plays(x, 1, NONE, 1, 0, 1, 0);
        x.plan(1, 1);
        plays(x, 1, NONE, 1, 0, 1, 0);
        x.plan(1, 62);
        plays(x, 1, 5, 1, 62, 1, 5);
        x.purse(1, 5);
        plays(x, 1, 5, 1, 62, 1, 5);
        x.purse(1, 4);
        plays(x, 1, NONE, 1, 0, 1, 0);
        x.purse(1, 20);
        for (int k = 0; k < 6; k++) x.node(k, 1, 5);
        plays(x, 1, NONE, 1, 0, 1, 0);
        x.plan(1, 60);
        plays(x, 1, 4, 3, 60, 2, 20);
    }

    private static void playKeeping() {
        FireNets x = Shapes.path(8);
        x.node(4, 1, 3);
        x.plan(3, 16);
        plays(x, 1, NONE, 7, 0, 3, 0);
        x.rule(0, 1);
        // Three ticks of purse 1 make 3.
        plays(x, 1, 4, 15, 16, 4, 3);
        x.plan(1, 128);
        plays(x, 1, NONE, 7, 128, 3, 1);
        x.node(4, 1, 2);
        plays(x, 1, 4, 15, 144, 4, 3);
        x.rule(0, 0);
        plays(x, 1, NONE, 7, 128, 3, 1);
    }

    private static void playRefused() {
        FireNets x = Shapes.path(5);
        for (int fire : new int[] {0, 32, -1, LOW, HIGH}) {
            DUE.is("play of fire " + fire, x.play(fire, 0), OUTSIDE);
            DUE.is("burns of fire " + fire, x.burns(fire, 0), OUTSIDE);
        }
        for (int what : new int[] {-1, 5, LOW, HIGH}) DUE.is("play what " + what, x.play(1, what), OUTSIDE);
        for (int tick : new int[] {-1, 21, LOW, HIGH}) DUE.is("burns tick " + tick, x.burns(1, tick), OUTSIDE);
    }

    private static void burnsBehindTicks() {
        FireNets x = Shapes.path(7);
        x.plan(3, 64);
        int[] due = {8, 28, 62, 63, 63};
        for (int tick = 0; tick <= 20; tick++) {
            DUE.is("burns behind " + tick, x.burns(8, tick), due[Math.min(tick, 4)]);
        }
        DUE.is("over", x.play(8, 3), 4);
        DUE.is("all at once", x.burns(127, 0), 127);
    }

    private static void bestOfPath() {
        // Fire in the middle of three: guards on one side, then nothing is left to save.
        FireNets x = Shapes.path(3);
        // Looks: {} then {} over; {0} then {} over; {2} then {} over. Guards behind the fire do not
        // help, and {0} is the first that saves one.
        bests(x, 2, 1, 6, 0, 2, 1, 0, 0, 0, 0, 0, 0, 0);
        x.node(2, 0, 3);
        bests(x, 2, 3, 6, 0, 2, 4, 0);
        x.node(2, 1, 2);
        bests(x, 2, 1, 4, 0, 2, 1, 0);
        x.purse(1, 3);
        bests(x, 2, 4, 7, 0, 1, 5, 0);
    }

    private static void bestIsFirstOfLike() {
        FireNets x = Shapes.star(5);
        x.purse(1, 2);
        x.purse(2, 0);
        bests(x, 1, 2, 22, 0, 2, 6);
        x.node(4, 0, 2);
        bests(x, 1, 3, 22, 0, 2, 18);
        x.node(3, 0, 0);
        x.node(2, 0, 2);
        bests(x, 1, 4, 22, 0, 2, 20);
    }

    private static void bestLeavesNothingBehindItsEnd() {
        // Tick 2 tries up to {3} before {1} is tried in tick 1, by which the fire is over.
        FireNets x = Shapes.path(4);
        DUE.is("saved", x.best(1, 0), 3);
        DUE.is("over", x.best(1, 3), 1);
        DUE.is("tick 1", x.best(1, 4), 2);
        for (int tick = 2; tick <= 8; tick++) DUE.is("tick " + tick, x.best(1, 3 + tick), 0);
        x.plan(2, 4);
        x.take(1);
        DUE.is("nothing taken", x.plan(2, 0), 0);
    }

    private static void bestPassesDearSets() {
        FireNets x = new FireNets();
        x.net(4);
        x.line(3, 1);
        x.line(1, 2);
        x.line(1, 0);
        x.node(0, 1, 5);
        x.node(2, 1, 5);
        // Looks: {}; then {} and, in tick 2, nothing else that can be paid; {1}.
        bests(x, 8, 3, 4, 0, 1, 2);
        x.node(1, 1, 2);
        bests(x, 8, 0, 3, 0, 3, 0);
        x.purse(1, 2);
        bests(x, 8, 3, 4, 0, 1, 2);
    }

    private static void bestKeeping() {
        FireNets x = Shapes.path(4);
        x.node(1, 1, 2);
        x.node(2, 1, 2);
        x.node(3, 1, 4);
        bests(x, 1, 0, 4, 0, 4, 0, 0, 0, 0);
        x.rule(0, 1);
        // The first tick has but its own purse, the second one two, with which 2 can be paid.
        bests(x, 1, 2, 5, 0, 2, 0, 4, 0, 0);
        x.node(2, 1, 3);
        bests(x, 1, 0, 4, 0, 4, 0, 0, 0, 0);
        x.node(3, 1, 3);
        bests(x, 1, 1, 5, 0, 3, 0, 0, 8, 0);
        x.purse(2, 0);
        x.purse(1, 3);
        // Looks behind {} in tick 1: {} and on with {} {} and {3}, {2}, {3} and {}; then {1}; {2} and
        // {}; {3} and {} {}: with the first one 14.
        bests(x, 1, 3, 14, 0, 1, 2, 0, 0, 0);
    }

    private static void bestSpent() {
        FireNets x = Shapes.star(10);
        x.rule(1, 50);
        x.purse(1, 9);
        x.purse(2, 0);
        // Each set of tick 1 is one look, and one more for the empty tick 2 that follows it (the
        // fire goes on till all are guarded): the sets 0 to 48 by twos are seen by the 50th look.
        bests(x, 1, 4, 50, 1, 2, 30);
        x.rule(1, 51);
        bests(x, 1, 4, 51, 1, 2, 30);
        x.rule(1, 1000);
        // 500 sets are seen: the first of those with eight nodes is 1 to 8.
        bests(x, 1, 8, 1000, 1, 2, 510);
        x.net(9);
        for (int k = 1; k < 9; k++) x.line(0, k);
        // 255 sets with two looks, and the last one with all guards, over by it.
        bests(x, 1, 8, 511, 0, 1, 510);
        x.rule(1, 511);
        bests(x, 1, 8, 511, 0, 1, 510);
        x.rule(1, 510);
        bests(x, 1, 7, 510, 1, 2, 254);
    }

    private static void bestBehindTick8() {
        FireNets x = Shapes.path(10);
        for (int tick = 1; tick <= 8; tick++) x.purse(tick, 0);
        bests(x, 1, 0, 8, 0, 10, 0, 0, 0, 0, 0, 0, 0, 0);
        x.purse(8, 1);
        // In tick 8 the nodes 8 and 9 are free: guards on 8 stop it there, in that very tick.
        bests(x, 1, 2, 10, 0, 8, 0, 0, 0, 0, 0, 0, 0, 256);
        x.node(8, 1, 2);
        bests(x, 1, 1, 9, 0, 9, 0, 0, 0, 0, 0, 0, 0, 512);
    }

    private static void bestRefused() {
        FireNets x = Shapes.path(4);
        for (int fire : new int[] {0, 16, -1, LOW, HIGH}) {
            DUE.is("best of fire " + fire, x.best(fire, 0), OUTSIDE);
            DUE.is("take of fire " + fire, x.take(fire), OUTSIDE);
        }
        for (int what : new int[] {-1, 12, LOW, HIGH}) DUE.is("best what " + what, x.best(1, what), OUTSIDE);
    }

    private static void takeBest() {
        FireNets x = Shapes.path(10);
        for (int tick = 1; tick <= 8; tick++) {
            x.plan(tick, 3);
            x.purse(tick, 0);
        }
        x.purse(3, 1);
        DUE.is("refused", x.take(1024), OUTSIDE);
        DUE.is("plan stays", x.plan(1, 3), 3);
        DUE.is("take", x.take(1), 7);
        plays(x, 1, 7, 7, 8, 3, 1);
        for (int tick = 1; tick <= 8; tick++) DUE.is("taken " + tick, x.plan(tick, 0), tick == 3 ? 8 : 0);
    }

    private static void leastPurse() {
        FireNets x = Shapes.star(5);
        for (int wanted = 0; wanted <= 4; wanted++) DUE.is("star " + wanted, x.least(1, wanted), wanted);
        DUE.is("more than there is", x.least(1, 5), NONE);
        DUE.is("far more", x.least(1, 90), NONE);
        for (int k = 1; k < 5; k++) x.node(k, 1, 6);
        DUE.is("dear", x.least(1, 3), 18);
        DUE.is("too dear", x.least(1, 4), NONE);
        x.node(4, 1, 2);
        DUE.is("up to 20", x.least(1, 4), 20);
        x.node(4, 1, 3);
        DUE.is("above 20", x.least(1, 4), NONE);
        x.purse(1, 7);
        DUE.is("purses do not matter", x.least(1, 3), 15);
        DUE.is("purses stay", x.purse(1, 7), 7);
        DUE.is("other purses stay", x.purse(2, 1), 1);
        FireNets y = Shapes.path(4);
        y.node(2, 1, 6);
        y.node(1, 1, 9);
        DUE.is("without keeping", y.least(1, 2), 6);
        y.rule(0, 1);
        DUE.is("with keeping", y.least(1, 2), 3);
        DUE.is("keeping stays", y.rule(0, 1), 1);
    }

    private static void leastRefused() {
        FireNets x = Shapes.path(4);
        DUE.is("fire 0", x.least(0, 0), OUTSIDE);
        DUE.is("fire 16", x.least(16, 0), OUTSIDE);
        DUE.is("wanted -1", x.least(1, -1), OUTSIDE);
        DUE.is("wanted 91", x.least(1, 91), OUTSIDE);
        DUE.is("all wrong", x.least(LOW, HIGH), OUTSIDE);
        DUE.is("wanted 0", x.least(15, 0), 0);
        DUE.is("wanted 1", x.least(15, 1), NONE);
    }
}
