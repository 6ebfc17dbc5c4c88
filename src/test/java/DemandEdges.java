import java.math.BigInteger;

/** Promises 12 to 18, 29, 31 to 33: what is asked and owed, demands, POINTS, SLACK, loads, odds. */
final class DemandEdges {
    private static final int[][] KINDS_AND_FIGURES = {{0, 0}, {0, 9}, {1, 0}, {1, 1}, {1, 9}, {2, 0}, {2, 9},
        {3, 0}, {3, 9}, {4, 0}, {4, 1}, {4, 9}, {5, 0}, {5, 9}};

    private DemandEdges() {
    }

    static void all() {
        askedWithinNothing();
        askedSteps();
        askedAtLargest();
        owedWithinNothing();
        owedBelowLimit();
        owedSteps();
        owedAtLargest();
        timesOutside();
        demands();
        demandAtLargest();
        busyOfNone();
        busyFromItsFirst();
        busyAtLargest();
        pointsToBusy();
        pointsToTheEnd();
        pointsByNumber();
        missesAtEdges();
        missAtTheEnd();
        sparesAtEdges();
        slacksAtEdges();
        slackOfNone();
        loadOfNone();
        loadsAtLargest();
        anewAtLargest();
        missingForSure();
        missingAtLargest();
        missingOfTheFirstFive();
    }

    private static boolean is(int kind, int... kinds) {
        for (int k : kinds) {
            if (k == kind) return true;
        }
        return false;
    }

    private static int distance(int period, int[] k) {
        return is(k[0], 2, 3) ? period + k[1] : period;
    }

    private static int late(int[] k) {
        return is(k[0], 1, 4) ? k[1] : 0;
    }

    private static int limit(int deadline, int[] k) {
        return is(k[0], 5) ? Math.max(1, deadline - k[1]) : deadline;
    }

    private static int byKind(int many, int[] k) {
        if (is(k[0], 3)) return many + 1;
        return is(k[0], 4) ? Math.min(many, k[1] + 1) : many;
    }

    private static void askedWithinNothing() {
        Sentence.says(12, "ASKED within t: 0, if t is 0 (of all KINDS)");
        for (int[] k : KINDS_AND_FIGURES) {
            DutiesProved x = Sentence.made(Sentence.task(1, 2, 1, k[0], k[1]));
            Sentence.due("of KIND " + k[0] + ", " + k[1], x.asked(0, 0), 0);
            Sentence.due("within 1", x.asked(0, 1) > 0 ? 1 : 0, 1);
        }
    }

    private static void askedSteps() {
        Sentence.says(12, "else (t and LATE) by DISTANCE, rounded up, of BURSTY ones 1 more than that");
        for (int[] k : KINDS_AND_FIGURES) {
            for (int period : new int[] {2, 3, 10, 60}) {
                DutiesProved x = Sentence.made(Sentence.task(1, period, 1, k[0], k[1]));
                int apart = distance(period, k);
                for (int many = 1; many <= 20; many++) {
                    int t = many * apart - late(k);
                    if (t < 1 || t >= 600) continue;
                    String what = "KIND " + k[0] + ", " + k[1] + ", PERIOD " + period + " within ";
                    Sentence.due(what + t, x.asked(0, t), byKind(many, k));
                    Sentence.due(what + (t + 1), x.asked(0, t + 1), byKind(many + 1, k));
                }
            }
        }
    }

    private static void askedAtLargest() {
        Sentence.says(12, "of SERVED ones FIGURE and 1 at most");
        int[][] due = {
            // KIND, FIGURE, PERIOD, ASKED within 600
            {0, 0, 2, 300}, {1, 9, 2, 305}, {2, 0, 2, 300}, {3, 0, 2, 301}, {5, 9, 2, 300}, {0, 9, 60, 10},
            {1, 9, 60, 11}, {2, 9, 60, 9}, {3, 9, 60, 10}, {4, 9, 2, 10}, {4, 8, 2, 9}, {4, 0, 2, 1}, {4, 9, 60, 10},
            {4, 9, 59, 10}};
        for (int[] d : due) {
            DutiesProved x = Sentence.made(Sentence.task(1, d[2], 1, d[0], d[1]));
            Sentence.due("KIND " + d[0] + ", " + d[1] + ", PERIOD " + d[2], x.asked(0, 600), d[3]);
            x.turns(0);
            Sentence.due("when not ON, too", x.asked(0, 600), d[3]);
        }
    }

    private static void owedWithinNothing() {
        Sentence.says(13, "OWED within t: 0, if t is 0 or t and LATE are below LIMIT (of all KINDS)");
        for (int[] k : KINDS_AND_FIGURES) {
            DutiesProved x = Sentence.made(Sentence.task(1, 2, 1, k[0], k[1]));
            Sentence.due("of KIND " + k[0] + ", " + k[1], x.owed(0, 0), 0);
            Sentence.due("within 1", x.owed(0, 1) > 0 ? 1 : 0, 1);
        }
    }

    private static void owedBelowLimit() {
        Sentence.says(13, "t and LATE are below LIMIT (of all KINDS)");
        for (int[] k : KINDS_AND_FIGURES) {
            for (int deadline : new int[] {1, 2, 9, 10, 11, 60}) {
                DutiesProved x = Sentence.made(Sentence.task(1, 60, deadline, k[0], k[1]));
                int first = limit(deadline, k) - late(k);
                String what = "KIND " + k[0] + ", " + k[1] + ", DEADLINE " + deadline + " within ";
                if (first > 0) {
                    Sentence.due(what + (first - 1), x.owed(0, first - 1), 0);
                    Sentence.due(what + first, x.owed(0, first), byKind(1, k));
                } else {
                    Sentence.due(what + 1, x.owed(0, 1), byKind(1, k));
                }
            }
        }
    }

    private static void owedSteps() {
        Sentence.says(13, "else (t and LATE less LIMIT) by DISTANCE, cut, and 1, of BURSTY ones 1 more than that");
        for (int[] k : KINDS_AND_FIGURES) {
            for (int period : new int[] {2, 3, 10, 60}) {
                DutiesProved x = Sentence.made(Sentence.task(1, period, 7, k[0], k[1]));
                for (int many = 1; many <= 20; many++) {
                    int t = limit(7, k) - late(k) + many * distance(period, k);
                    if (t < 2 || t > 600) continue;
                    String what = "KIND " + k[0] + ", " + k[1] + ", PERIOD " + period + " within ";
                    Sentence.due(what + (t - 1), x.owed(0, t - 1), byKind(many, k));
                    Sentence.due(what + t, x.owed(0, t), byKind(many + 1, k));
                }
            }
        }
    }

    private static void owedAtLargest() {
        Sentence.says(13, "OWED within t. -1; -4; -6 600.");
        int[][] due = {
            // KIND, FIGURE, PERIOD, DEADLINE, OWED within 600
            {0, 0, 2, 1, 300}, {1, 9, 2, 1, 305}, {2, 0, 2, 1, 300}, {3, 0, 2, 1, 301}, {3, 9, 2, 1, 56},
            {4, 9, 2, 1, 10}, {4, 0, 2, 1, 1}, {5, 9, 2, 10, 300}, {0, 0, 60, 60, 10}, {2, 9, 60, 60, 8},
            {1, 0, 60, 60, 10}, {1, 9, 51, 60, 11}, {5, 9, 60, 60, 10}, {4, 9, 60, 60, 10}, {4, 8, 60, 60, 9}};
        for (int[] d : due) {
            DutiesProved x = Sentence.made(Sentence.task(1, d[2], d[3], d[0], d[1]));
            Sentence.due("KIND " + d[0] + ", " + d[1] + ", PERIOD " + d[2], x.owed(0, 600), d[4]);
            x.turns(0);
            Sentence.due("when not ON, too", x.owed(0, 600), d[4]);
        }
    }

    private static void timesOutside() {
        Sentence.says(13, "a number above the greatest, no room.");
        DutiesProved x = Sentence.of("t1,2,1;");
        for (int t : new int[] {Sentence.LOW, -1}) {
            Sentence.due("asked within " + t, x.asked(0, t), -4);
            Sentence.due("owed within " + t, x.owed(0, t), -4);
        }
        for (int t : new int[] {601, Sentence.HIGH}) {
            Sentence.due("asked within " + t, x.asked(0, t), -6);
            Sentence.due("owed within " + t, x.owed(0, t), -6);
        }
        for (int task : new int[] {Sentence.LOW, -1, 1, 6, Sentence.HIGH}) {
            for (int t : new int[] {-1, 0, 600, 601}) {
                Sentence.due("asked of " + task, x.asked(task, t), -1);
                Sentence.due("owed of " + task, x.owed(task, t), -1);
            }
        }
    }

    private static void demands() {
        Sentence.says(14, "DEMAND of t (0 .. 600): of all TASKS COST times OWED within t, together.");
        DutiesProved x = Sentence.of("t20,60,60;t3,10,5;t1,2,1;");
        Sentence.due("at 0", x.demand(0), 0);
        Sentence.due("at 1", x.demand(1), 1);
        Sentence.due("at 60", x.demand(60), 20 + 3 * 6 + 30);
        Sentence.due("at 59", x.demand(59), 3 * 6 + 30);
        Sentence.due("at 600", x.demand(600), 20 * 10 + 3 * 60 + 300);
        x.turns(0);
        Sentence.due("without one", x.demand(600), 3 * 60 + 300);
        x.turns(1);
        x.turns(2);
        Sentence.due("when none is ON", x.demand(600), 0);
        Sentence.due("at -1", x.demand(-1), -4);
        Sentence.due("at 601", x.demand(601), -6);
        Sentence.due("at LOW", x.demand(Sentence.LOW), -4);
        Sentence.due("at HIGH", x.demand(Sentence.HIGH), -6);
    }

    private static void demandAtLargest() {
        Sentence.says(14, "DEMAND of t (0 .. 600)");
        DutiesProved x = Sentence.made(Sentence.times(6, Sentence.task(20, 2, 1, 1, 9)));
        Sentence.due("at 600", x.demand(600), 6 * 20 * 305);
        Sentence.due("at 1", x.demand(1), 6 * 20 * 5);
        Sentence.due("at 0", x.demand(0), 0);
    }

    private static void busyOfNone() {
        Sentence.says(15, "(0, if none is ON; none, if t is above 600)");
        DutiesProved x = Sentence.of("t20,2,1;x0;");
        Sentence.due("none is ON", x.busy(), 0);
        x.turns(0);
        Sentence.due("above 600", x.busy(), -9);
        x.cost(0, 2);
        Sentence.due("settles at once", x.busy(), 2);
    }

    private static void busyFromItsFirst() {
        Sentence.says(15, "BUSY: t is first COST times ASKED within 1 of all together");
        Sentence.due("the least", Sentence.of("t1,60,60;").busy(), 1);
        // within 2 it would be asked twice, and 2 would stay 2
        Sentence.due("the first that stays", Sentence.of("t1,2,2;k0=1,1;").busy(), 1);
        Sentence.due("two at once", Sentence.of("t1,60,60;k0=3,0;").busy(), 2);
        // 3, then (3 and 4) by 2, then (4 and 4) by 2
        Sentence.due("three at once", Sentence.of("t1,2,60;k0=4,4;").busy(), 4);
        // 4, then 2 and 3, and that again
        Sentence.due("one more by and by", Sentence.of("t1,3,60;t3,9,60;").busy(), 5);
    }

    private static void busyAtLargest() {
        Sentence.says(15, "till that is t (0, if none is ON; none, if t is above 600)");
        int[] served = {20, 2, 60, 4, 9};
        DutiesProved x = Sentence.made(served, served, served, Sentence.task(1, 60, 60, 4, 0));
        Sentence.due("601", x.busy(), -9);
        x.turns(3);
        Sentence.due("600", x.busy(), 600);
        x.cost(0, 19);
        x.turns(3);
        Sentence.due("591", x.busy(), 591);
        x.cost(3, 10);
        Sentence.due("600 otherwise", x.busy(), 600);
        x.cost(3, 11);
        Sentence.due("601 otherwise", x.busy(), -9);
        DutiesProved most = Sentence.made(Sentence.times(6, Sentence.task(20, 2, 60, 1, 9)));
        Sentence.due("600 first, then much above", most.busy(), -9);
        Sentence.due("600 first, and no more",
                Sentence.made(Sentence.times(6, Sentence.task(20, 2, 60, 4, 4))).busy(), 600);
    }

    private static void pointsToBusy() {
        Sentence.says(16, "POINTS: all t from 1 to BUSY");
        Sentence.due("one at 1", Sentence.of("t1,60,1;").point(0), 1);
        Sentence.due("one at BUSY", Sentence.of("t20,60,20;").point(0), 20);
        Sentence.due("none behind BUSY", Sentence.of("t20,60,21;").point(-1), 0);
        DutiesProved x = Sentence.of("t2,10,8;t3,15,5;");
        Sentence.due("not that at 8", x.point(-1), 1);
        Sentence.due("BUSY", x.busy(), 5);
        DutiesProved late = Sentence.of("t1,10,9;k0=1,8;");
        Sentence.due("LATE makes it 1", late.point(0), 1);
        Sentence.due("that alone", late.point(-1), 1);
        late.turns(0);
        Sentence.due("none is ON", late.point(-1), 0);
        Sentence.due("none is ON, the first", late.point(0), -9);
    }

    private static void pointsToTheEnd() {
        Sentence.says(16, "(without a BUSY to 600) at which DEMAND is more than at t less 1");
        DutiesProved x = Sentence.of("t2,2,1;t2,2,2;");
        Sentence.due("as many as can be", x.point(-1), 600);
        for (int i : new int[] {0, 1, 298, 598, 599}) Sentence.due("point(" + i + ")", x.point(i), i + 1);
        Sentence.due("behind all", x.point(600), -9);
        DutiesProved even = Sentence.of("t20,2,2;");
        Sentence.due("the last at 600", even.point(299), 600);
        Sentence.due("behind it", even.point(300), -9);
        DutiesProved odd = Sentence.of("t20,2,1;");
        Sentence.due("the last at 599", odd.point(299), 599);
        Sentence.due("behind 599", odd.point(300), -9);
        DutiesProved once = Sentence.of("t20,2,60;t20,2,59;k0=4,0;k1=1,9;x1;");
        Sentence.due("none to BUSY", once.point(-1), 0);
        once.turns(1);
        // the one without an end is DUE at 50, 52 .. 600, the other one once, at 60
        Sentence.due("no more than the other one's", once.point(-1), 276);
    }

    private static void pointsByNumber() {
        Sentence.says(16, "The i-th POINT (i -1: how many); -9. -4 below -1.");
        DutiesProved x = Sentence.of("t2,5,5;t4,7,7;");
        int[] due = {4, 5, 7, 10, 14, -9, -9};
        for (int i = 0; i < due.length; i++) Sentence.due("point(" + (i - 1) + ")", x.point(i - 1), due[i]);
        for (int i : new int[] {599, 600, 601, Sentence.HIGH}) Sentence.due("point(" + i + ")", x.point(i), -9);
        for (int i : new int[] {-2, -3, Sentence.LOW}) Sentence.due("point(" + i + ")", x.point(i), -4);
    }

    private static void missesAtEdges() {
        Sentence.says(17, "MISS: the least POINT at which DEMAND is above it.");
        Sentence.due("DEMAND is as the POINT", Sentence.of("t20,60,20;").miss(), -9);
        Sentence.due("DEMAND is 1 more", Sentence.of("t20,60,19;").miss(), 19);
        Sentence.due("the least is 1", Sentence.of("t2,60,1;").miss(), 1);
        Sentence.due("1 at 1", Sentence.of("t1,60,1;").miss(), -9);
        Sentence.due("two at 1", Sentence.of("t1,60,1;k0=3,0;").miss(), 1);
        Sentence.due("the first of two", Sentence.of("t2,60,1;t9,60,3;").miss(), 1);
        Sentence.due("the second of two", Sentence.of("t1,60,1;t9,60,9;").miss(), 9);
        DutiesProved x = Sentence.of("t20,60,1;x0;");
        Sentence.due("none is ON", x.miss(), -9);
    }

    private static void missAtTheEnd() {
        Sentence.says(17, "(without a BUSY to 600)");
        DutiesProved x = Sentence.of("t5,57,57;t3,46,46;t5,25,25;t12,40,40;t9,46,46;t1,6,6;");
        Sentence.due("no BUSY", x.busy(), -9);
        Sentence.due("DEMAND at 600", x.demand(600), 606);
        Sentence.due("first at 600", x.miss(), 600);
        DutiesProved y = Sentence.of("t20,58,58;t20,30,30;");
        Sentence.due("no BUSY", y.busy(), -9);
        Sentence.due("it would be at 638", y.miss(), -9);
        Sentence.due("DEMAND as 600", y.demand(600), 600);
        Sentence.due("so SPARE is 0", y.spare(), 0);
    }

    private static void sparesAtEdges() {
        Sentence.says(18, "SPARE (it may be below 0; 1000: there are no POINTS).");
        Sentence.due("no TASKS", new DutiesProved().spare(), 1000);
        DutiesProved x = Sentence.of("t20,60,20;");
        Sentence.due("0", x.spare(), 0);
        x.cost(0, 19);
        Sentence.due("no POINTS", x.spare(), 1000);
        x.turns(0);
        Sentence.due("none is ON", x.spare(), 1000);
        Sentence.due("-1", Sentence.of("t20,60,19;").spare(), -1);
        Sentence.due("1", Sentence.of("t1,2,2;t1,60,60;").spare(), 1);
        Sentence.due("57", Sentence.of("t2,2,60;k0=1,1;").spare(), 57);
        Sentence.due("the least that can be",
                Sentence.made(Sentence.times(6, Sentence.task(20, 2, 1, 1, 9))).spare(), 600 - 36600);
    }

    private static void slacksAtEdges() {
        Sentence.says(29, "(0 .. 99; it alone, 20 is no bound there) with no MISS");
        Sentence.due("as much as its LIMIT lets it", Sentence.of("t1,60,60;").slack(0), 59);
        Sentence.due("above 20", Sentence.of("t20,60,60;").slack(0), 40);
        Sentence.due("0", Sentence.of("t20,60,20;").slack(0), 0);
        Sentence.due("1", Sentence.of("t19,60,20;").slack(0), 1);
        Sentence.due("0, at 1", Sentence.of("t1,60,1;").slack(0), 0);
        DutiesProved x = Sentence.of("t1,60,60;t1,60,60;t20,60,1;x2;");
        Sentence.due("one alone", x.slack(0), 58);
        Sentence.due("the other one alone", x.slack(1), 58);
        Sentence.due("COSTS stay", x.count(2), 2);
        Sentence.due("no more than the PERIOD", Sentence.of("t1,2,2;").slack(0), 1);
        Sentence.due("no BUSY, nor a MISS", Sentence.of("t20,58,58;t20,30,30;").slack(0), 0);
    }

    private static void slackOfNone() {
        Sentence.says(29, "(none, if there is one as it is)");
        DutiesProved x = Sentence.of("t1,60,60;t20,60,19;");
        Sentence.due("a MISS as it is", x.slack(0), -9);
        Sentence.due("its own", x.slack(1), -9);
        x.turns(1);
        Sentence.due("not ON", x.slack(1), -3);
        Sentence.due("the other one then", x.slack(0), 59);
        for (int task : new int[] {Sentence.LOW, -1, 2, 6, Sentence.HIGH}) {
            Sentence.due("of nobody", x.slack(task), -1);
        }
    }

    private static void loadOfNone() {
        Sentence.says(31, "as a fraction in least terms (0 by 1: none)");
        DutiesProved x = Sentence.of("t20,2,1;x0;");
        Sentence.due("none is ON, above", x.load(0), 0);
        Sentence.due("none is ON, below", x.load(1), 1);
        x.turns(0);
        Sentence.due("in least terms", x.load(0), 10);
        Sentence.due("in least terms, below", x.load(1), 1);
        for (int part : new int[] {Sentence.LOW, -1, 2, Sentence.HIGH}) {
            Sentence.due("load(" + part + ")", x.load(part), Sentence.LONGS + 2);
        }
        Sentence.due("refused", x.count(12), 4);
    }

    private static void dueLoad(int cost, int[] distances) {
        int[][] tasks = new int[distances.length][];
        BigInteger above = BigInteger.ZERO;
        BigInteger below = BigInteger.ONE;
        for (int i = 0; i < tasks.length; i++) {
            int figure = Math.max(0, distances[i] - 60);
            tasks[i] = Sentence.task(cost, distances[i] - figure, 1, 2, figure);
            BigInteger by = BigInteger.valueOf(distances[i]);
            above = above.multiply(by).add(below.multiply(BigInteger.valueOf(cost)));
            below = below.multiply(by);
        }
        BigInteger common = above.gcd(below);
        DutiesProved x = Sentence.made(tasks);
        Sentence.due("above of COST " + cost, x.load(0), above.divide(common).longValueExact());
        Sentence.due("below of COST " + cost, x.load(1), below.divide(common).longValueExact());
    }

    private static void loadsAtLargest() {
        Sentence.says(31, "LOAD: COST by DISTANCE of all, together");
        int[] largest = {59, 61, 65, 67, 68, 69};
        for (int cost : new int[] {1, 19, 20}) dueLoad(cost, largest);
        Sentence.due("below, told once more", Sentence.made(Sentence.task(19, 59, 1), Sentence.task(19, 60, 1, 2, 1),
                Sentence.task(19, 60, 1, 2, 5), Sentence.task(19, 60, 1, 3, 7), Sentence.task(19, 60, 1, 3, 8),
                Sentence.task(19, 60, 1, 2, 9)).load(1), 73540742340L);
        DutiesProved x = Sentence.made(Sentence.times(6, Sentence.task(20, 2, 1)));
        Sentence.due("the most", x.load(0), 60);
        Sentence.due("the most, below", x.load(1), 1);
        DutiesProved least = Sentence.made(Sentence.task(1, 60, 1, 3, 9));
        Sentence.due("the least of one", least.load(0), 1);
        Sentence.due("the least of one, below", least.load(1), 69);
    }

    private static DutiesProved ofDistances(int... distances) {
        int[][] tasks = new int[distances.length][];
        for (int i = 0; i < tasks.length; i++) {
            int figure = Math.max(0, distances[i] - 60);
            tasks[i] = Sentence.task(1, distances[i] - figure, 1, 3, figure);
        }
        return Sentence.made(tasks);
    }

    private static void anewAtLargest() {
        Sentence.says(32, "(1: none; none, if it is above 2147483647)");
        Sentence.due("no TASKS", new DutiesProved().anew(), 1);
        DutiesProved x = ofDistances(2);
        Sentence.due("one", x.anew(), 2);
        x.turns(0);
        Sentence.due("none is ON", x.anew(), 1);
        Sentence.due("six alike", ofDistances(60, 60, 60, 60, 60, 60).anew(), 60);
        Sentence.due("each the half of the next", ofDistances(2, 4, 8, 16, 32, 64).anew(), 64);
        Sentence.due("some of each in the next", ofDistances(69, 66, 44, 40, 60, 63).anew(), 637560);
        Sentence.due("the largest that there is", ofDistances(7, 37, 46, 47, 59, 65).anew(), 2147438930);
        DutiesProved above = ofDistances(11, 25, 43, 47, 56, 69);
        Sentence.due("the least above", above.anew(), -9);
        Sentence.due("its LOAD goes on", above.load(1), 2147514600L);
        Sentence.due("the largest", ofDistances(59, 61, 65, 67, 68, 69).anew(), -9);
        above.turns(0);
        Sentence.due("without one", above.anew(), 195228600);
    }

    private static void missingForSure() {
        Sentence.says(33, "a fraction in least terms (0 by 1, if never)");
        DutiesProved x = Sentence.of("t1,60,1;t2,60,60;t2,60,60;t2,60,60;t2,60,60;t2,60,1;");
        for (int t : new int[] {2, 20}) {
            Sentence.due("never", x.missing(t, 0), 0);
            Sentence.due("never, below", x.missing(t, 1), 1);
        }
        x.turns(5);
        for (int t : new int[] {2, 20}) {
            Sentence.due("always", x.missing(t, 0), 1);
            Sentence.due("always, below", x.missing(t, 1), 1);
        }
        for (int task = 0; task < 5; task++) x.turns(task);
        Sentence.due("none is ON", x.missing(2, 0), 1);
        Sentence.due("none is ON, below", x.missing(2, 1), 1);
    }

    private static void missingAtLargest() {
        Sentence.says(33, "with odds 1 in t (2 .. 20) isn't");
        // all five are one too many
        DutiesProved x = Sentence.made(Sentence.times(5, Sentence.task(1, 60, 4)));
        Sentence.due("but all five", x.missing(20, 0), 3200000 - 2476099);
        Sentence.due("but all five, below", x.missing(20, 1), 3200000);
        Sentence.due("but all five, by halves", x.missing(2, 0), 31);
        Sentence.due("but all five, by halves, below", x.missing(2, 1), 32);
        // each is one too many
        DutiesProved y = Sentence.made(Sentence.times(5, Sentence.task(2, 60, 1)));
        Sentence.due("none of five", y.missing(20, 0), 1);
        Sentence.due("none of five, below", y.missing(20, 1), 3200000);
        Sentence.due("none of five, by halves, below", y.missing(2, 1), 32);
        for (int part : new int[] {-1, 0, 1, 2}) {
            Sentence.due("in 1", y.missing(1, part), Sentence.LONGS + 4);
            Sentence.due("in LOW", y.missing(Sentence.LOW, part), Sentence.LONGS + 4);
            Sentence.due("in 21", y.missing(21, part), Sentence.LONGS + 6);
            Sentence.due("in HIGH", y.missing(Sentence.HIGH, part), Sentence.LONGS + 6);
        }
        for (int part : new int[] {Sentence.LOW, -1, 2, Sentence.HIGH}) {
            Sentence.due("part " + part, y.missing(2, part), Sentence.LONGS + 2);
        }
    }

    private static void missingOfTheFirstFive() {
        Sentence.says(33, "MISSING: each of the TASKS 0 .. 4 that are ON, by itself");
        for (int bad = 0; bad < 6; bad++) {
            int[][] tasks = Sentence.times(6, Sentence.task(1, 60, 60));
            tasks[bad] = Sentence.task(2, 60, 1);
            DutiesProved x = Sentence.made(tasks);
            Sentence.due("of " + bad, x.missing(7, 0), bad == 5 ? 0 : 1);
            Sentence.due("of " + bad + ", below", x.missing(7, 1), bad == 5 ? 1 : 7);
            x.turns(bad);
            Sentence.due("when it isn't ON", x.missing(7, 0), 1);
            Sentence.due("when it isn't ON, below", x.missing(7, 1), 1);
        }
    }
}
