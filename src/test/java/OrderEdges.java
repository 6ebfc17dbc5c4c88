/** Promises 19 to 25 and 30: ORDER, CEILING, BLOCKING, RESPONSE, FITS, LAWFUL, SLACK by a POLICY. */
final class OrderEdges {
    private static final int[] OTHER_POLICIES = {Sentence.LOW, -1, 3, 4, Sentence.HIGH};
    /** Ten JOBS of 20 at once, and no more of them. */
    private static final int[] TWO_HUNDRED = {20, 2, 60, 4, 9};

    private OrderEdges() {
    }

    static void all() {
        ordersOfAlike();
        ordersByOne();
        ordersByNumber();
        ceilings();
        ceilingsOfOther();
        noBlocking();
        blockings();
        responsesAtLargest();
        responsesWithBlocking();
        responsesFromTheFirst();
        noTaskOn();
        roundsAtEdges();
        fitsAtEdges();
        fitsOfNoneAndAll();
        lawfulOfNone();
        lawfulOfSix();
        lawfulByOne();
        lawfulBlocked();
        slacksByPolicy();
        noSlackByPolicy();
    }

    private static void dueOrder(DutiesProved x, int policy, int... order) {
        for (int i = 0; i < order.length; i++) {
            Sentence.due("order(" + policy + ", " + i + ")", x.order(policy, i), order[i]);
        }
        Sentence.due("behind all", x.order(policy, order.length), -9);
    }

    private static void ordersOfAlike() {
        Sentence.says(19, "ORDER by RATE, LIMIT, RANK: all, so; of several the least first.");
        DutiesProved x = Sentence.made(Sentence.times(6, Sentence.task(1, 60, 60)));
        for (int policy = 0; policy < 3; policy++) dueOrder(x, policy, 0, 1, 2, 3, 4, 5);
        x.turns(0);
        x.turns(3);
        for (int policy = 0; policy < 3; policy++) dueOrder(x, policy, 1, 2, 4, 5);
        for (int task : new int[] {1, 2, 4, 5}) x.turns(task);
        for (int policy = 0; policy < 3; policy++) dueOrder(x, policy);
    }

    private static void ordersByOne() {
        Sentence.says(19, "0 RATE: the least PERIOD first; 1 LIMIT: the least LIMIT first; 2 RANK: the greatest RANK");
        DutiesProved x = Sentence.of("t1,60,60;t1,59,59;t1,2,2;t1,3,1;r0=0;r1=8;r2=1;r3=9;");
        dueOrder(x, 0, 2, 3, 1, 0);
        dueOrder(x, 1, 3, 2, 1, 0);
        dueOrder(x, 2, 3, 1, 2, 0);
        x.kind(0, 5, 9);
        dueOrder(x, 1, 3, 2, 0, 1);
        x.kind(2, 5, 1);
        dueOrder(x, 1, 2, 3, 0, 1);
        x.kind(2, 5, 9);
        dueOrder(x, 1, 2, 3, 0, 1);
        x.kind(3, 2, 9);
        dueOrder(x, 0, 2, 3, 1, 0);
        x.rank(0, 9);
        dueOrder(x, 2, 0, 3, 1, 2);
    }

    private static void ordersByNumber() {
        Sentence.says(19, "The i-th TASK in ORDER; -9. -2 (3, too); -4.");
        DutiesProved x = Sentence.made(Sentence.times(6, Sentence.task(1, 60, 60)));
        for (int policy = 0; policy < 3; policy++) {
            for (int i : new int[] {6, 7, Sentence.HIGH}) {
                Sentence.due("order(" + policy + ", " + i + ")", x.order(policy, i), -9);
            }
            for (int i : new int[] {-1, -9, Sentence.LOW}) {
                Sentence.due("order(" + policy + ", " + i + ")", x.order(policy, i), -4);
            }
        }
        for (int policy : OTHER_POLICIES) {
            for (int i : new int[] {-1, 0, 6}) {
                Sentence.due("order(" + policy + ", " + i + ")", x.order(policy, i), -2);
            }
        }
    }

    private static void ceilings() {
        Sentence.says(20, "CEILING of a LOCK: the first in ORDER that HOLDS it for 1 or more.");
        DutiesProved x = Sentence.of("t1,10,10;t1,20,20;t1,30,30;r2=9;");
        for (int lock = 0; lock < 4; lock++) {
            for (int policy = 0; policy < 3; policy++) Sentence.due("none", x.ceiling(policy, lock), -9);
            x.holds(2, lock, 1);
            for (int policy = 0; policy < 3; policy++) Sentence.due("the last alone", x.ceiling(policy, lock), 2);
            x.holds(1, lock, 9);
            Sentence.due("the first by RATE", x.ceiling(0, lock), 1);
            Sentence.due("the first by RANK", x.ceiling(2, lock), 2);
            x.holds(0, lock, 1);
            Sentence.due("the first of all", x.ceiling(0, lock), 0);
            x.turns(0);
            Sentence.due("not one that isn't ON", x.ceiling(0, lock), 1);
            x.turns(0);
            x.holds(0, lock, 0);
            Sentence.due("not one that HOLDS it for 0", x.ceiling(1, lock), 1);
        }
        for (int task = 0; task < 3; task++) x.turns(task);
        Sentence.due("none is ON", x.ceiling(0, 0), -9);
    }

    private static void ceilingsOfOther() {
        Sentence.says(20, "CEILING; -9. -2 (3, too); -1.");
        DutiesProved x = Sentence.of("t1,10,10;h0,0=9;h0,3=9;");
        for (int lock : new int[] {Sentence.LOW, -1, 4, Sentence.HIGH}) {
            for (int policy = 0; policy < 3; policy++) Sentence.due("LOCK " + lock, x.ceiling(policy, lock), -1);
            for (int policy : OTHER_POLICIES) Sentence.due("either", x.ceiling(policy, lock), -2);
        }
        for (int policy : OTHER_POLICIES) Sentence.due("POLICY " + policy, x.ceiling(policy, 0), -2);
        Sentence.due("LOCK 0", x.ceiling(0, 0), 0);
        Sentence.due("LOCK 3", x.ceiling(2, 3), 0);
    }

    private static void noBlocking() {
        Sentence.says(21, "whose CEILING is it or AHEAD of it (0: none).");
        DutiesProved x = Sentence.of("t1,10,10;t1,20,20;t1,30,30;");
        for (int task = 0; task < 3; task++) Sentence.due("no LOCK is held", x.blocking(0, task), 0);
        x.holds(2, 0, 9);
        for (int task = 0; task < 3; task++) Sentence.due("the last alone HOLDS it", x.blocking(0, task), 0);
        x.holds(0, 1, 9);
        for (int task = 0; task < 3; task++) Sentence.due("the first alone, too", x.blocking(0, task), 0);
        x.holds(1, 0, 1);
        int[] due = {0, 9, 0};
        for (int task = 0; task < 3; task++) Sentence.due("CEILING is 1", x.blocking(0, task), due[task]);
        x.holds(1, 0, 0);
        Sentence.due("0 is no hold", x.blocking(0, 1), 0);
    }

    private static void blockings() {
        Sentence.says(21, "BLOCKING of a TASK: the most for which one BEHIND it HOLDS a LOCK");
        DutiesProved x = Sentence.of("t1,10,10;t1,20,20;t1,30,30;t1,40,40;h0,3=1;h2,3=1;h3,3=2;r3=9;");
        int[][] due = {
            // by RATE, LIMIT, RANK
            {2, 2, 2, 0}, {2, 2, 2, 0}, {1, 1, 0, 1}};
        for (int policy = 0; policy < 3; policy++) {
            for (int task = 0; task < 4; task++) {
                Sentence.due("blocking(" + policy + ", " + task + ")", x.blocking(policy, task), due[policy][task]);
            }
        }
        x.turns(3);
        int[] without = {1, 1, 0};
        for (int task = 0; task < 3; task++) Sentence.due("without one", x.blocking(0, task), without[task]);
        x.turns(0);
        Sentence.due("without the CEILING", x.blocking(0, 1), 0);
        Sentence.due("not ON", x.blocking(0, 0), -3);
        x.turns(0);
        x.turns(3);
        x.holds(3, 0, 9);
        x.holds(1, 0, 1);
        int[] most = {2, 9, 9, 0};
        for (int task = 0; task < 4; task++) Sentence.due("the most", x.blocking(1, task), most[task]);
    }

    private static void responsesAtLargest() {
        Sentence.says(22, "till that is r (none, if r is above 600).");
        DutiesProved x = Sentence.made(TWO_HUNDRED, TWO_HUNDRED, Sentence.task(19, 2, 60, 4, 9),
                Sentence.task(10, 60, 60));
        Sentence.due("600", x.response(0, 3), 600);
        Sentence.due("600, rounds", x.rounds(0, 3), 2);
        x.cost(3, 11);
        Sentence.due("601", x.response(0, 3), -9);
        Sentence.due("601, rounds", x.rounds(0, 3), -9);
        x.cost(3, 9);
        Sentence.due("599", x.response(0, 3), 599);
        x.turns(0);
        Sentence.due("without one", x.response(0, 3), 399);
        DutiesProved y = Sentence.made(Sentence.times(6, Sentence.task(20, 2, 60, 1, 9)));
        Sentence.due("its own", y.response(0, 0), 100);
        Sentence.due("behind one that needs more than all", y.response(0, 1), -9);
        Sentence.due("behind five of them", y.response(0, 5), -9);
    }

    private static void responsesWithBlocking() {
        Sentence.says(22, "RESPONSE: r is first COST times ASKED within 1, and BLOCKING");
        DutiesProved x = Sentence.made(TWO_HUNDRED, TWO_HUNDRED, Sentence.task(19, 2, 60, 4, 9),
                Sentence.task(9, 59, 60), Sentence.task(1, 60, 60));
        x.holds(3, 3, 1);
        x.holds(4, 3, 1);
        Sentence.due("600 with 1", x.response(0, 3), 600);
        x.holds(4, 3, 2);
        Sentence.due("601 with 2", x.response(0, 3), -9);
        x.turns(4);
        Sentence.due("599 without", x.response(0, 3), 599);
        DutiesProved y = Sentence.of("t1,10,60;t1,20,60;h0,0=1;h1,0=9;");
        Sentence.due("1 and 9", y.response(0, 0), 10);
        y.cost(0, 20);
        Sentence.due("20 and 9", y.response(0, 0), 29);
    }

    private static void responsesFromTheFirst() {
        Sentence.says(22, "then, again and again, that and of all AHEAD COST times ASKED within r");
        Sentence.due("the least", Sentence.of("t1,2,1;").response(0, 0), 1);
        Sentence.due("its own are asked within 1 alone", Sentence.of("t20,2,1;").response(2, 0), 20);
        Sentence.due("five at once", Sentence.of("t20,2,60;k0=4,9;").response(0, 0), 100);
        Sentence.due("two at once", Sentence.of("t20,60,60;k0=3,9;").response(1, 0), 40);
        // 1, then 2: within 2 the one ahead is asked once
        Sentence.due("ahead once", Sentence.of("t1,2,2;t1,60,60;").response(0, 1), 2);
        // 2, 3, 4: within 4 it is asked twice
        Sentence.due("ahead twice", Sentence.of("t1,2,2;t2,60,60;").response(0, 1), 4);
    }

    private static void noTaskOn() {
        Sentence.says(22, "RESPONSE; -9. -2 (3, too); -1; -3 it isn't ON.");
        DutiesProved x = Sentence.of("t1,2,1;t1,2,1;x1;");
        for (int task : new int[] {Sentence.LOW, -1, 0, 1, 2, 6, Sentence.HIGH}) {
            for (int policy : OTHER_POLICIES) {
                Sentence.due("response", x.response(policy, task), -2);
                Sentence.due("rounds", x.rounds(policy, task), -2);
                Sentence.due("blocking", x.blocking(policy, task), -2);
                Sentence.due("slackBy", x.slackBy(policy, task), -2);
            }
            if (task == 0) continue;
            int due = task == 1 ? -3 : -1;
            for (int policy = 0; policy < 3; policy++) {
                Sentence.due("response of " + task, x.response(policy, task), due);
                Sentence.due("rounds of " + task, x.rounds(policy, task), due);
                Sentence.due("blocking of " + task, x.blocking(policy, task), due);
                Sentence.due("slackBy of " + task, x.slackBy(policy, task), due);
            }
        }
    }

    private static void roundsAtEdges() {
        Sentence.says(23, "How many different r there are on the way to RESPONSE (it, too; -9 none).");
        Sentence.due("one", Sentence.of("t20,2,1;").rounds(0, 0), 1);
        DutiesProved x = Sentence.of("t1,2,2;t2,60,60;");
        // 2, 3, 4
        Sentence.due("three", x.rounds(0, 1), 3);
        x.turns(0);
        Sentence.due("one without the other", x.rounds(0, 1), 1);
        x.turns(0);
        x.cost(0, 2);
        Sentence.due("none", x.rounds(0, 1), -9);
        Sentence.due("206", Sentence.of("t1,16,16;t1,3,3;t1,2,2;t1,10,10;t2,17,17;").rounds(0, 4), 206);
    }

    private static void fitsAtEdges() {
        Sentence.says(24, "FITS: RESPONSE and LATE are LIMIT at most.");
        int[][] tasks = {
            // COST, PERIOD, DEADLINE, KIND, FIGURE, whether it FITS
            {20, 60, 20, 0, 0, 1}, {20, 60, 19, 0, 0, 0}, {1, 2, 1, 0, 0, 1}, {2, 2, 1, 0, 0, 0}, {11, 60, 20, 1, 9, 1},
            {12, 60, 20, 1, 9, 0}, {11, 60, 20, 5, 9, 1}, {12, 60, 20, 5, 9, 0}, {10, 60, 20, 3, 9, 1},
            {11, 60, 20, 3, 9, 0}, {11, 60, 20, 4, 9, 1}, {12, 60, 20, 4, 9, 0}, {20, 60, 20, 2, 9, 1},
            {1, 60, 60, 5, 9, 1}, {1, 60, 1, 5, 9, 1}, {1, 60, 1, 1, 1, 0}};
        for (int[] t : tasks) {
            DutiesProved x = Sentence.made(t);
            String what = "KIND " + t[3] + ", COST " + t[0] + ", DEADLINE " + t[2];
            for (int policy = 0; policy < 3; policy++) Sentence.due(what, x.fits(policy), t[5]);
        }
        DutiesProved y = Sentence.of("t2,3,2;t1,60,6;");
        // 1, 3, then 3 again
        Sentence.due("both", y.fits(0), 3);
        y.cost(1, 2);
        // 2, 4, 6
        Sentence.due("both, just so", y.fits(0), 3);
        y.cost(1, 3);
        Sentence.due("the first alone", y.fits(0), 1);
        y.cost(0, 3);
        Sentence.due("none without a RESPONSE", y.fits(0), 0);
    }

    private static void fitsOfNoneAndAll() {
        Sentence.says(24, "TASKS (bits) that FIT. -2 (3, too).");
        DutiesProved x = Sentence.made(Sentence.times(6, Sentence.task(10, 60, 60)));
        for (int policy = 0; policy < 3; policy++) Sentence.due("all", x.fits(policy), 63);
        x.cost(5, 11);
        for (int policy = 0; policy < 3; policy++) Sentence.due("but the last", x.fits(policy), 31);
        x.rank(5, 1);
        Sentence.due("by RANK the last is another", x.fits(2), 63 - 16);
        x.turns(0);
        Sentence.due("without one", x.fits(0), 62);
        for (int task = 1; task < 6; task++) x.turns(task);
        for (int policy = 0; policy < 3; policy++) Sentence.due("none is ON", x.fits(policy), 0);
        for (int policy : OTHER_POLICIES) Sentence.due("fits(" + policy + ")", x.fits(policy), -2);
    }

    private static void dueLawful(DutiesProved x, int... order) {
        for (int i = 0; i < order.length; i++) Sentence.due("lawful(" + i + ")", x.lawful(i), order[i]);
        Sentence.due("behind all", x.lawful(order.length), -9);
    }

    private static void lawfulOfNone() {
        Sentence.says(25, "The i-th TASK of the LAWFUL order; -9 (there is none; behind all). -4.");
        DutiesProved x = Sentence.of("t1,60,1;t1,60,60;");
        dueLawful(x, 0, 1);
        for (int i : new int[] {2, 5, 6, 31, 32, 64, Sentence.HIGH}) Sentence.due("lawful(" + i + ")", x.lawful(i), -9);
        for (int i : new int[] {-1, -9, Sentence.LOW}) Sentence.due("lawful(" + i + ")", x.lawful(i), -4);
        x.kind(1, 5, 0);
        x.cost(0, 2);
        for (int i = 0; i < 7; i++) Sentence.due("there is none", x.lawful(i), -9);
        x.turns(0);
        dueLawful(x, 1);
        x.turns(1);
        dueLawful(x);
    }

    private static void lawfulOfSix() {
        Sentence.says(25, "of several that with the least TASK last, of these that with the least ahead of it, and so on.");
        DutiesProved x = Sentence.made(Sentence.times(6, Sentence.task(10, 60, 60)));
        dueLawful(x, 5, 4, 3, 2, 1, 0);
        x.turns(4);
        dueLawful(x, 5, 3, 2, 1, 0);
        x.turns(4);
        x.kind(0, 5, 9);
        dueLawful(x, 5, 4, 3, 2, 0, 1);
        x.cost(3, 11);
        for (int i = 0; i < 6; i++) Sentence.due("61 of 60", x.lawful(i), -9);
    }

    private static void lawfulByOne() {
        Sentence.says(25, "LAWFUL: an order of all TASKS in which each FITS");
        // each FITS in one place alone
        DutiesProved x = Sentence.of("t10,60,60;t10,60,50;t10,60,40;t10,60,30;t10,60,20;t10,60,10;");
        dueLawful(x, 5, 4, 3, 2, 1, 0);
        DutiesProved y = Sentence.of("t10,60,10;t10,60,20;t10,60,30;t10,60,40;t10,60,50;t10,60,60;");
        dueLawful(y, 0, 1, 2, 3, 4, 5);
        y.kind(5, 5, 1);
        for (int i = 0; i < 6; i++) Sentence.due("one less", y.lawful(i), -9);
        y.kind(5, 1, 1);
        Sentence.due("one LATE", y.lawful(0), -9);
        y.kind(5, 1, 0);
        dueLawful(y, 0, 1, 2, 3, 4, 5);
    }

    private static void lawfulBlocked() {
        Sentence.says(25, "(as in ORDER, by AHEAD and BEHIND in that)");
        DutiesProved x = Sentence.of("t1,60,60;t5,50,6;h0,0=1;h1,0=1;");
        // 1 ahead: 5 and 1 for which 0 HOLDS it
        dueLawful(x, 1, 0);
        x.holds(0, 0, 2);
        // from behind 0 would block 1 too long; ahead 1 is done by 6
        dueLawful(x, 0, 1);
        x.holds(1, 0, 0);
        dueLawful(x, 1, 0);
    }

    private static void slacksByPolicy() {
        Sentence.says(30, "by a POLICY 0 .. 2: with all of them fitting");
        for (int policy = 0; policy < 3; policy++) {
            Sentence.due("59", Sentence.of("t1,60,60;").slackBy(policy, 0), 59);
            Sentence.due("40", Sentence.of("t20,60,60;").slackBy(policy, 0), 40);
            Sentence.due("0", Sentence.of("t20,60,20;").slackBy(policy, 0), 0);
            Sentence.due("1", Sentence.of("t19,60,20;").slackBy(policy, 0), 1);
            Sentence.due("no PERIOD is a bound", Sentence.of("t1,2,60;").slackBy(policy, 0), 59);
        }
        DutiesProved x = Sentence.of("t5,60,60;t5,60,60;t20,60,1;x2;");
        Sentence.due("the first, for the second", x.slackBy(0, 0), 50);
        Sentence.due("the second", x.slackBy(0, 1), 50);
        x.kind(1, 1, 9);
        Sentence.due("LATE", x.slackBy(0, 0), 41);
        x.holds(0, 0, 1);
        x.holds(1, 0, 9);
        Sentence.due("BLOCKING of the first is nothing to the second", x.slackBy(0, 0), 41);
        Sentence.due("COSTS stay", x.count(2), 10);
    }

    private static void noSlackByPolicy() {
        Sentence.says(30, "(none, if one doesn't FIT as it is)");
        DutiesProved x = Sentence.of("t1,60,60;t20,60,19;");
        for (int policy = 0; policy < 3; policy++) {
            Sentence.due("for another one", x.slackBy(policy, 0), -9);
            Sentence.due("its own", x.slackBy(policy, 1), -9);
        }
        x.kind(1, 0, 9);
        x.turns(1);
        Sentence.due("one that isn't ON may be so", x.slackBy(0, 0), 59);
        // five at once, and 9 LATE: 59 of COST 10, 64 of COST 11
        DutiesProved y = Sentence.of("t1,2,60;k0=4,9;");
        Sentence.due("LATE and five at once", y.slackBy(0, 0), 9);
        y.cost(0, 10);
        Sentence.due("59 at most", y.slackBy(0, 0), 0);
        y.cost(0, 11);
        Sentence.due("64 is too much", y.slackBy(0, 0), -9);
    }
}
