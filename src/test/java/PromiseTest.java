/** For each promise: ordinary inputs, the edges that the document names, and each refusal. */
public final class PromiseTest {
    private static final long LONGS = 4000000000000000000L;
    private static final int LOW = Integer.MIN_VALUE;
    private static final int HIGH = Integer.MAX_VALUE;
    private static int wrong = 0;
    private static int looked = 0;

    private static void due(String what, long got, long want) {
        looked++;
        if (got != want) {
            wrong++;
            System.out.println(what + " answered " + got + ", due is " + want);
        }
    }

    /** What is refused changes nothing but how many there were. */
    private static void refused(DutiesProved x, String what, long before, long got, int refusal) {
        due(what, got, refusal);
        due(what + ", counted", x.count(10 - refusal), before + 1);
    }

    private static void tell(DutiesProved x, String text) {
        Sentence.tell(x, text);
    }

    private static int told(DutiesProved x, String text) {
        return Sentence.told(x, text);
    }

    private static DutiesProved of(String text) {
        DutiesProved x = new DutiesProved();
        due(text + " comes", told(x, text) > 0 ? 1 : 0, 1);
        return x;
    }

    public static void main(String[] args) {
        newObject();
        letter();
        tells();
        tellsFaults();
        tasks();
        turns();
        offsetRankCost();
        kind();
        holds();
        task();
        asked();
        owed();
        demand();
        busy();
        point();
        missAndSpare();
        order();
        ceilingAndBlocking();
        response();
        rounds();
        fits();
        lawful();
        run();
        runOfKinds();
        runOfLateOnes();
        jobs();
        first();
        slack();
        slackBy();
        load();
        anew();
        missing();
        whatIs();
        rowAndClear();
        judge();
        lots();
        imageAndOn();
        count();
        System.out.println(looked + " answers looked at, " + wrong + " not as due");
        if (wrong != 0) System.exit(1);
    }

    // Promise 1
    private static void newObject() {
        DutiesProved x = new DutiesProved();
        for (int what = 0; what <= 17; what++) {
            boolean told = what <= 4 || what >= 11 && what <= 16;
            due("new: count(" + what + ")", x.count(what), told ? 0 : -9);
        }
        due("new: busy", x.busy(), 0);
        due("new: point(-1)", x.point(-1), 0);
        due("new: spare", x.spare(), 1000);
        due("new: on", x.on(), -3);
        due("new: run", x.run(3, 0), -9);
        due("new: lots fit", x.lots(20, 1, 1), 20);
    }

    // Promise 2
    private static void letter() {
        DutiesProved x = new DutiesProved();
        due("letter(0)", x.letter(0), 1);
        due("letter(255)", x.letter(255), 2);
        refused(x, "letter(-1)", 0, x.letter(-1), -4);
        refused(x, "letter(LOW)", 1, x.letter(LOW), -4);
        refused(x, "letter(256)", 0, x.letter(256), -6);
        due("letters", x.count(4), 2);
        for (int i = 3; i <= 96; i++) due("letter " + i, x.letter('x'), i);
        refused(x, "a 97th letter", 1, x.letter('x'), -6);
        refused(x, "a 97th letter below", 2, x.letter(-1), -4);
        due("letters when full", x.count(4), 96);
    }

    // Promise 3
    private static void tells() {
        DutiesProved x = new DutiesProved();
        due("tells all", told(x, "t1,10,5;t20,60,60;o1=59;r0=9;k1=4,9;h0,3=9;x1;"), 7);
        due("letters after", x.count(4), 0);
        due("tasks told", x.count(0), 2);
        due("on told", x.count(1), 1);
        due("cost told", x.task(1, 0), 20);
        due("period told", x.task(1, 1), 60);
        due("deadline told", x.task(1, 2), 60);
        due("offset told", x.task(1, 3), 59);
        due("rank told", x.task(0, 4), 9);
        due("kind told", x.task(1, 5), 4);
        due("figure told", x.task(1, 6), 9);
        due("held told", x.holds(0, 3, 0), 9);
        due("on again", told(x, "x01;"), 1);
        due("bits on again", x.count(1), 3);
        due("two digits with a nought", told(x, "t05,09,08;o02=00;"), 2);
        due("cost of two digits", x.task(2, 0), 5);
        due("off and on in one", told(x, "x2;x2;x2;"), 3);
        due("off in the end", x.task(2, 7), 0);
        DutiesProved y = new DutiesProved();
        due("32 statements", told(y, "t1,2,1;" + "x0;".repeat(29)), 30);
        due("off by odd many", y.count(1), 0);
    }

    private static void tellsFaults() {
        DutiesProved x = of("t1,10,5;");
        String[] broken = {"", "z", "T", ";", "t", "t,", "t1;", "t1,", "t1,2", "t1,2,", "t1,2,3", "t1,2,3,",
            "t123,", "t12,123", "t1,2,3;;", "t1,2,3;o", "o=", "o0,", "o0=123;", "r0;", "k0=1;", "k0,", "h0=",
            "h0,1,", "h0,1=1,", "x;", "x0", "x0=", "x012;", "x0; ", "t-1,2,3;", "t99,1,1;z"};
        int[] places = {0, 0, 0, 0, 1, 1, 2, 3, 4, 5, 6, 6,
            3, 6, 7, 8, 1, 2, 5, 2, 4, 2, 2,
            4, 6, 1, 2, 2, 3, 3, 1, 8};
        for (int i = 0; i < broken.length; i++) {
            due("tells " + broken[i], told(x, broken[i]), -1000 - places[i]);
            due("no letters after " + broken[i], x.count(4), 0);
        }
        String[] bad = {"t0,2,1;", "t21,2,1;", "t1,1,1;", "t1,61,1;", "t1,2,0;", "t1,2,61;", "o1=0;", "o0=60;",
            "r1=0;", "r0=10;", "k1=0,0;", "k0=6,0;", "k0=0,10;", "h1,0=0;", "h0,4=0;", "h0,0=10;", "x1;",
            "x0;r0=10;", "t1,2,1;x2;x1;", "o00=07;r0=1;k0=5,1;o01=1;"};
        int[] ahead = {0, 0, 0, 0, 0, 0, 0, 0, 0, 0, 0, 0, 0, 0, 0, 0, 0, 3, 7, 19};
        for (int i = 0; i < bad.length; i++) {
            due("tells " + bad[i], told(x, bad[i]), -2000 - ahead[i]);
        }
        due("one task as ever", x.count(0), 1);
        due("on as ever", x.count(1), 1);
        due("offset as ever", x.task(0, 3), 0);
        due("kind as ever", x.task(0, 5), 0);
        due("no room for a 7th", told(x, "t1,2,1;t1,2,1;t1,2,1;t1,2,1;t1,2,1;t1,2,1;"), -2035);
        due("room for five", told(x, "t1,2,1;t1,2,1;t1,2,1;t1,2,1;t1,2,1;o5=3;"), 6);
        due("the last one's offset", x.task(5, 3), 3);
        for (int what = 11; what <= 16; what++) due("no fault is counted", x.count(what), 0);
    }

    // Promise 4
    private static void tasks() {
        DutiesProved x = new DutiesProved();
        due("tasks least", x.tasks(1, 2, 1), 0);
        due("tasks most", x.tasks(20, 60, 60), 1);
        refused(x, "cost 0", 0, x.tasks(0, 2, 1), -4);
        refused(x, "period 1", 1, x.tasks(1, 1, 1), -4);
        refused(x, "deadline 0", 2, x.tasks(1, 2, 0), -4);
        refused(x, "below goes first", 3, x.tasks(21, 61, 0), -4);
        refused(x, "cost 21", 0, x.tasks(21, 2, 1), -6);
        refused(x, "period 61", 1, x.tasks(1, 61, 1), -6);
        refused(x, "deadline 61", 2, x.tasks(1, 2, 61), -6);
        due("two tasks", x.count(0), 2);
        for (int i = 2; i < 6; i++) due("task " + i, x.tasks(1, 60, 60), i);
        refused(x, "a 7th", 3, x.tasks(1, 60, 60), -6);
        refused(x, "a 7th below", 4, x.tasks(LOW, 60, 60), -4);
        for (int what = 3; what <= 6; what++) due("0 at first", x.task(3, what), 0);
        due("on at first", x.task(3, 7), 1);
        due("holds 0 at first", x.holds(3, 3, 1), 0);
    }

    // Promise 5
    private static void turns() {
        DutiesProved x = of("t1,10,5;t1,20,5;");
        due("turns off", x.turns(1), 0);
        due("bits", x.count(1), 1);
        due("turns on", x.turns(1), 1);
        due("bits on", x.count(1), 3);
        refused(x, "turns(2)", 0, x.turns(2), -1);
        refused(x, "turns(-1)", 1, x.turns(-1), -1);
        refused(x, "turns(HIGH)", 2, x.turns(HIGH), -1);
    }

    // Promises 6, 7, 8
    private static void offsetRankCost() {
        DutiesProved x = of("t1,10,5;");
        due("offset", x.offset(0, 59), 0);
        due("offset old", x.offset(0, 0), 59);
        refused(x, "offset of nobody", 0, x.offset(1, -1), -1);
        refused(x, "offset -1", 0, x.offset(0, -1), -4);
        refused(x, "offset 60", 0, x.offset(0, 60), -6);
        due("offset stays", x.task(0, 3), 0);
        due("rank", x.rank(0, 9), 0);
        due("rank old", x.rank(0, 1), 9);
        refused(x, "rank of nobody", 1, x.rank(-1, 10), -1);
        refused(x, "rank -1", 1, x.rank(0, -1), -4);
        refused(x, "rank 10", 1, x.rank(0, 10), -6);
        due("rank stays", x.task(0, 4), 1);
        due("rank 0", x.rank(0, 0), 1);
        due("cost", x.cost(0, 20), 1);
        due("cost old", x.cost(0, 2), 20);
        refused(x, "cost of nobody", 2, x.cost(1, 0), -1);
        refused(x, "cost 0", 2, x.cost(0, 0), -4);
        refused(x, "cost 21", 2, x.cost(0, 21), -6);
        due("cost stays", x.task(0, 0), 2);
    }

    // Promise 9
    private static void kind() {
        DutiesProved x = of("t1,10,5;");
        due("kind", x.kind(0, 5, 9), 0);
        due("kind old", x.kind(0, 3, 2), 59);
        refused(x, "kind of nobody", 0, x.kind(1, 6, -1), -1);
        refused(x, "kind 6", 0, x.kind(0, 6, -1), -2);
        refused(x, "kind -1", 1, x.kind(0, -1, 10), -2);
        refused(x, "figure -1", 0, x.kind(0, 0, -1), -4);
        refused(x, "figure 10", 0, x.kind(0, 0, 10), -6);
        due("kind stays", x.kind(0, 0, 0), 32);
    }

    // Promise 10
    private static void holds() {
        DutiesProved x = of("t1,10,5;");
        due("holds", x.holds(0, 0, 9), 0);
        due("holds old", x.holds(0, 0, 1), 9);
        due("holds another lock", x.holds(0, 3, 4), 0);
        refused(x, "holds of nobody", 0, x.holds(1, 0, -1), -1);
        refused(x, "holds lock 4", 1, x.holds(0, 4, 10), -1);
        refused(x, "holds lock -1", 2, x.holds(0, -1, 0), -1);
        refused(x, "holds -1", 0, x.holds(0, 0, -1), -4);
        refused(x, "holds 10", 0, x.holds(0, 0, 10), -6);
        due("held stays", x.holds(0, 0, 0), 1);
        due("the other one stays", x.holds(0, 3, 0), 4);
    }

    // Promise 11
    private static void task() {
        DutiesProved x = of("t3,20,8;o0=7;r0=6;");
        int[][] traits = {
            // kind, figure, DISTANCE, LATE, LIMIT
            {0, 9, 20, 0, 8}, {1, 9, 20, 9, 8}, {2, 9, 29, 0, 8}, {3, 9, 29, 0, 8}, {4, 9, 20, 9, 8},
            {5, 9, 20, 0, 1}, {5, 7, 20, 0, 1}, {5, 6, 20, 0, 2}, {5, 0, 20, 0, 8}, {2, 0, 20, 0, 8}};
        for (int[] t : traits) {
            x.kind(0, t[0], t[1]);
            int[] all = {3, 20, 8, 7, 6, t[0], t[1], 1, t[2], t[3], t[4]};
            for (int what = 0; what <= 10; what++) {
                due("task of kind " + t[0] + " figure " + t[1] + ", " + what, x.task(0, what), all[what]);
            }
        }
        x.turns(0);
        due("task off", x.task(0, 7), 0);
        refused(x, "task of nobody", 0, x.task(1, 11), -1);
        refused(x, "task what 11", 0, x.task(0, 11), -2);
        refused(x, "task what -1", 1, x.task(0, -1), -2);
    }

    // Promise 12
    private static void asked() {
        DutiesProved x = of("t3,10,8;");
        int[] times = {0, 1, 10, 11, 20, 21, 600};
        int[][] due = {
            {0, 3, 0, 1, 1, 2, 2, 3, 60}, {1, 3, 0, 1, 2, 2, 3, 3, 61}, {2, 3, 0, 1, 1, 1, 2, 2, 47},
            {3, 3, 0, 2, 2, 2, 3, 3, 48}, {4, 3, 0, 1, 2, 2, 3, 3, 4}, {5, 3, 0, 1, 1, 2, 2, 3, 60},
            {4, 0, 0, 1, 1, 1, 1, 1, 1}};
        for (int[] d : due) {
            x.kind(0, d[0], d[1]);
            for (int i = 0; i < times.length; i++) {
                due("asked of kind " + d[0] + " within " + times[i], x.asked(0, times[i]), d[i + 2]);
            }
        }
        x.turns(0);
        due("asked of one that is off", x.asked(0, 1), 1);
        refused(x, "asked of nobody", 0, x.asked(-1, -1), -1);
        refused(x, "asked -1", 0, x.asked(0, -1), -4);
        refused(x, "asked 601", 0, x.asked(0, 601), -6);
        refused(x, "asked HIGH", 1, x.asked(0, HIGH), -6);
    }

    // Promise 13
    private static void owed() {
        DutiesProved x = of("t3,10,8;");
        int[] times = {0, 1, 4, 5, 7, 8, 17, 18, 600};
        int[][] due = {
            {0, 3, 0, 0, 0, 0, 0, 1, 1, 2, 60}, {1, 3, 0, 0, 0, 1, 1, 1, 2, 2, 60},
            {2, 3, 0, 0, 0, 0, 0, 1, 1, 1, 46}, {3, 3, 0, 0, 0, 0, 0, 2, 2, 2, 47},
            {4, 3, 0, 0, 0, 1, 1, 1, 2, 2, 4}, {5, 3, 0, 0, 0, 1, 1, 1, 2, 2, 60},
            {4, 0, 0, 0, 0, 0, 0, 1, 1, 1, 1}, {1, 9, 0, 1, 1, 1, 1, 1, 2, 2, 61}};
        for (int[] d : due) {
            x.kind(0, d[0], d[1]);
            for (int i = 0; i < times.length; i++) {
                due("owed of kind " + d[0] + " within " + times[i], x.owed(0, times[i]), d[i + 2]);
            }
        }
        x.turns(0);
        due("owed of one that is off", x.owed(0, 1), 1);
        refused(x, "owed of nobody", 0, x.owed(1, 601), -1);
        refused(x, "owed -1", 0, x.owed(0, -1), -4);
        refused(x, "owed 601", 0, x.owed(0, 601), -6);
    }

    // Promise 14
    private static void demand() {
        DutiesProved x = of("t2,10,8;t3,15,12;");
        int[] times = {0, 7, 8, 11, 12, 18, 27, 600};
        int[] due = {0, 0, 2, 2, 5, 7, 10, 240};
        for (int i = 0; i < times.length; i++) due("demand(" + times[i] + ")", x.demand(times[i]), due[i]);
        x.turns(0);
        due("demand without one", x.demand(12), 3);
        refused(x, "demand(-1)", 0, x.demand(-1), -4);
        refused(x, "demand(601)", 0, x.demand(601), -6);
    }

    // Promise 15
    private static void busy() {
        due("busy at once", of("t2,10,8;t3,15,12;").busy(), 5);
        due("busy by steps", of("t2,5,5;t4,7,7;").busy(), 14);
        due("busy never ends", of("t5,6,6;t5,6,6;").busy(), -9);
        due("busy 60", of("t5,6,6;t5,6,6;k1=4,1;").busy(), 60);
        due("busy 120", of("t20,40,40;t20,60,60;t10,60,60;").busy(), 120);
        due("busy to 600", of("t20,40,9;t15,50,9;t12,60,9;").busy(), 600);
        due("busy beyond 600", of("t20,40,9;t15,50,9;t12,60,9;t1,60,9;k3=4,0;").busy(), -9);
        // asked within 1 once, within 2 twice
        due("busy begins with 1", of("t1,2,2;k0=1,1;").busy(), 1);
        DutiesProved off = of("t2,10,8;");
        off.turns(0);
        due("busy of none", off.busy(), 0);
    }

    // Promise 16
    private static void point() {
        DutiesProved x = of("t2,5,5;t4,7,7;");
        int[] points = {5, 7, 10, 14};
        due("how many points", x.point(-1), 4);
        for (int i = 0; i < points.length; i++) due("point(" + i + ")", x.point(i), points[i]);
        due("point behind all", x.point(4), -9);
        due("point HIGH", x.point(HIGH), -9);
        refused(x, "point(-2)", 0, x.point(-2), -4);
        due("a point at busy counts", of("t5,6,5;").point(-1), 1);
        due("a point behind busy doesn't", of("t5,6,6;").point(-1), 0);
        DutiesProved y = of("t20,2,2;");
        due("points to 600", y.point(-1), 300);
        due("the last at 600", y.point(299), 600);
        due("a point at 1", of("t1,10,3;k0=1,2;").point(0), 1);
    }

    // Promises 17, 18
    private static void missAndSpare() {
        DutiesProved x = of("t2,5,5;t4,7,7;");
        // demands at 5, 7, 10, 14: 2, 6, 8, 12
        due("no miss", x.miss(), -9);
        due("spare 1", x.spare(), 1);
        x.kind(0, 5, 2);
        // at 3, 7, 8, 13, 14: 2, 6, 8, 10, 14
        due("no miss just so", x.miss(), -9);
        due("spare 0", x.spare(), 0);
        x.kind(1, 5, 4);
        // at 3, 8, 10, 13: 6, 8, 12, 14
        due("miss", x.miss(), 3);
        due("spare below 0", x.spare(), -3);
        DutiesProved y = of("t5,6,6;");
        due("spare without points", y.spare(), 1000);
        due("miss without points", y.miss(), -9);
        due("a demand as its time is no miss", of("t5,6,5;").miss(), -9);
        due("miss behind the first point", of("t4,8,4;t5,9,8;").miss(), 8);
    }

    // Promise 19
    private static void order() {
        DutiesProved x = of("t1,30,10;t1,20,12;t1,20,10;t1,40,9;t1,10,12;r0=1;r3=5;r4=1;k1=5,4;");
        // by RATE 4 (10), 1, 2 (20), 0, 3; by LIMIT 1 (8), 3 (9), 0, 2 (10), 4; by RANK 3, 0, 4, 1, 2
        int[][] orders = {{4, 1, 2, 0, 3}, {1, 3, 0, 2, 4}, {3, 0, 4, 1, 2}};
        for (int policy = 0; policy < 3; policy++) {
            for (int i = 0; i < 5; i++) {
                due("order(" + policy + "," + i + ")", x.order(policy, i), orders[policy][i]);
            }
            due("order behind all", x.order(policy, 5), -9);
        }
        x.kind(2, 2, 9);
        due("RATE is by PERIOD, not DISTANCE", x.order(0, 2), 2);
        x.turns(4);
        due("order without one", x.order(0, 0), 1);
        due("order without one, behind", x.order(0, 4), -9);
        refused(x, "order by 3", 0, x.order(3, -1), -2);
        refused(x, "order by -1", 1, x.order(-1, 0), -2);
        refused(x, "order -1", 0, x.order(0, -1), -4);
    }

    // Promises 20, 21
    private static void ceilingAndBlocking() {
        DutiesProved x = of("t1,10,10;t1,20,5;t1,30,30;t1,40,40;h0,0=1;h2,0=7;h1,1=2;h3,1=9;h3,2=8;r3=1;");
        due("ceiling of 0", x.ceiling(0, 0), 0);
        due("ceiling of 1", x.ceiling(0, 1), 1);
        due("ceiling of 2", x.ceiling(0, 2), 3);
        due("ceiling of a lock that none holds", x.ceiling(0, 3), -9);
        due("ceiling of 1 by RANK", x.ceiling(2, 1), 3);
        due("blocking of the first", x.blocking(0, 0), 7);
        due("blocking of the second", x.blocking(0, 1), 9);
        due("blocking of the third", x.blocking(0, 2), 9);
        due("blocking of the last", x.blocking(0, 3), 0);
        due("blocking by LIMIT of 1", x.blocking(1, 1), 9);
        due("blocking by LIMIT of 0", x.blocking(1, 0), 9);
        due("blocking by RANK of 3", x.blocking(2, 3), 2);
        due("blocking by RANK of 0", x.blocking(2, 0), 7);
        x.turns(0);
        due("ceiling without the first", x.ceiling(0, 0), 2);
        due("blocking without the first", x.blocking(0, 1), 9);
        x.turns(3);
        due("blocking without the last", x.blocking(0, 1), 0);
        refused(x, "ceiling by 3", 0, x.ceiling(3, 4), -2);
        refused(x, "ceiling of 4", 0, x.ceiling(0, 4), -1);
        refused(x, "ceiling of -1", 1, x.ceiling(0, -1), -1);
        refused(x, "blocking by 3", 1, x.blocking(3, 9), -2);
        refused(x, "blocking of nobody", 2, x.blocking(0, 4), -1);
        refused(x, "blocking of one off", 0, x.blocking(0, 3), -3);
    }

    // Promise 22
    private static void response() {
        DutiesProved x = of("t2,10,8;t3,15,12;t4,30,25;r2=1;");
        due("response of the first", x.response(0, 0), 2);
        due("response of the second", x.response(0, 1), 5);
        due("response of the third", x.response(0, 2), 9);
        due("response by RANK of the third", x.response(2, 2), 4);
        x.holds(2, 1, 5);
        x.holds(0, 1, 1);
        due("blocked", x.response(0, 0), 7);
        due("blocked between", x.response(0, 1), 10);
        x.kind(0, 1, 9);
        due("ahead is JITTERY", x.response(0, 2), 8 + 3);
        x.kind(0, 3, 0);
        due("it is BURSTY itself", x.response(0, 0), 4 + 5);
        DutiesProved y = of("t5,6,6;t5,6,6;");
        due("response above its limit", y.response(0, 1), 30);
        y.cost(0, 6);
        due("no response", y.response(0, 1), -9);
        y.cost(0, 5);
        y.kind(0, 3, 0);
        due("no response behind a BURSTY one", y.response(0, 1), 60);
        DutiesProved z = of("t20,40,9;t15,50,9;t11,60,9;t10,60,9;");
        due("response 600", z.response(0, 3), 600);
        due("asked within 1 of its own", of("t1,2,9;k0=1,1;").response(0, 0), 1);
        due("asked within 1, more than once", of("t1,2,9;k0=1,4;").response(0, 0), 3);
        z.cost(3, 11);
        due("response above 600", z.response(0, 3), -9);
        y.turns(1);
        refused(y, "response by 3", 0, y.response(3, 2), -2);
        refused(y, "response of nobody", 0, y.response(2, 2), -1);
        refused(y, "response of one off", 0, y.response(2, 1), -3);
    }

    // Promise 23
    private static void rounds() {
        DutiesProved x = of("t5,6,6;t5,6,6;t1,60,60;");
        due("one round", x.rounds(0, 0), 1);
        due("six rounds", x.rounds(0, 1), 6);
        due("no response", x.rounds(0, 2), -9);
        DutiesProved y = of("t2,10,8;t3,15,12;");
        due("two rounds", y.rounds(0, 1), 2);
        y.turns(1);
        refused(y, "rounds by 3", 0, y.rounds(3, 2), -2);
        refused(y, "rounds of nobody", 0, y.rounds(0, 2), -1);
        refused(y, "rounds of one off", 0, y.rounds(0, 1), -3);
    }

    // Promise 24
    private static void fits() {
        DutiesProved x = of("t2,10,2;t3,15,5;t4,30,8;");
        due("two fit", x.fits(0), 3);
        x.kind(2, 5, 0);
        x.turns(1);
        due("without one", x.fits(1), 5);
        x.kind(0, 1, 1);
        due("LATE counts", x.fits(1), 4);
        due("none by -1", x.fits(-1), -2);
        refused(x, "fits by 3", 1, x.fits(3), -2);
    }

    // Promise 25
    private static void lawful() {
        DutiesProved x = of("t2,10,8;t3,15,12;t4,30,25;");
        // the least that fits last: 0 (2, 5, 9: 9 is above 8), then 1 (9 is 12 at most); then 0, 2
        int[] due = {2, 0, 1, -9};
        for (int i = 0; i < due.length; i++) due("lawful(" + i + ")", x.lawful(i), due[i]);
        x.turns(1);
        due("lawful of two, first", x.lawful(0), 2);
        due("lawful of two, last", x.lawful(1), 0);
        due("lawful behind two", x.lawful(2), -9);
        due("no lawful order", of("t5,6,6;t5,6,6;").lawful(0), -9);
        refused(x, "lawful(-1)", 0, x.lawful(-1), -4);
        // 0 fits last, but from there it blocks 1 for 9, which does not fit then
        DutiesProved y = of("t1,60,60;t5,50,6;h0,0=9;h1,0=1;");
        due("the least last would block", y.lawful(0), 0);
        due("so it isn't last", y.lawful(1), 1);
        y.holds(0, 0, 1);
        due("less blocking", y.lawful(0), 1);
        due("less blocking, last", y.lawful(1), 0);
    }

    // Promise 26
    private static void run() {
        DutiesProved x = of("t2,6,6;t3,10,4;o0=1;");
        // by RATE (0 first): 1 at 0; 0 at 1, 2; 1 at 3, 4 is too late (DUE at 4): missed at 4
        int[] rate = {1, 0, 0, 1, -9, -9, -9, 0, 0, -9, 1, 1, 1, 0, 0};
        // by EARLIEST: 1 (DUE at 4) at 0, 1, 2; 0 at 3, 4
        int[] earliest = {1, 1, 1, 0, 0, -9, -9, 0, 0, -9, 1, 1, 1, 0, 0};
        for (int u = 0; u < rate.length; u++) {
            due("run by RATE at " + u, x.run(0, u), rate[u]);
            due("run by EARLIEST at " + u, x.run(3, u), earliest[u]);
            due("run by LIMIT at " + u, x.run(1, u), earliest[u]);
        }
        x.rank(1, 3);
        due("run by RANK", x.run(2, 1), 1);
        x.turns(1);
        due("run without one", x.run(2, 0), -9);
        due("run at 59", x.run(2, 59), -9);
        due("run at 56", x.run(2, 56), 0);
        DutiesProved late = of("t1,10,5;o0=40;");
        due("none ahead of the OFFSET", late.run(0, 20), -9);
        due("none just ahead of the OFFSET", late.run(0, 39), -9);
        due("at the OFFSET", late.run(0, 40), 0);
        due("once", late.run(0, 41), -9);
        DutiesProved open = of("t20,20,60;t1,60,60;x1;");
        due("work that stays at the end", open.jobs(0, 0, 0), 3);
        open.cost(0, 19);
        open.offset(0, 59);
        due("one unit of it", open.run(0, 59), 0);
        due("nothing of it in the next run", open.run(0, 58), -9);
        refused(x, "run by 4", 0, x.run(4, -1), -2);
        refused(x, "run at -1", 0, x.run(3, -1), -4);
        refused(x, "run at 60", 0, x.run(3, 60), -6);
    }

    private static void runOfKinds() {
        DutiesProved x = of("t2,10,6;");
        int[][] due = {
            // kind, figure, DONE, MISSED
            {0, 3, 6, 0}, {1, 3, 6, 0}, {2, 3, 5, 0}, {3, 3, 10, 0}, {4, 3, 4, 0}, {5, 3, 6, 0},
            {4, 0, 1, 0}, {4, 5, 3, 3}, {5, 5, 0, 6}};
        for (int[] d : due) {
            x.kind(0, d[0], d[1]);
            due("DONE of kind " + d[0] + " figure " + d[1], x.jobs(3, 0, 0), d[2]);
            due("MISSED of kind " + d[0] + " figure " + d[1], x.jobs(3, 0, 1), d[3]);
        }
        x.kind(0, 1, 3);
        // the odd ones come 3 later: 0, 13, 20, 33 ..
        int[] worked = {0, 1, 13, 14, 20, 21, 33, 34};
        for (int u : worked) due("JITTERY at " + u, x.run(0, u), 0);
        due("JITTERY not at 10", x.run(0, 10), -9);
        due("JITTERY not at 15", x.run(0, 15), -9);
        due("JITTERY not at 23", x.run(0, 23), -9);
        x.kind(0, 3, 0);
        for (int u = 10; u < 14; u++) due("BURSTY at " + u, x.run(0, u), 0);
        due("BURSTY not at 14", x.run(0, 14), -9);
        x.cost(0, 4);
        // DUE at 6: one is DONE at 4, the other is MISSED at 6
        due("BURSTY: DONE", x.jobs(3, 0, 0), 6);
        due("BURSTY: MISSED", x.jobs(3, 0, 1), 6);
        due("BURSTY: first MISSED", x.first(3, 0), 6);
    }

    private static void runOfLateOnes() {
        // the odd one comes at 10 + 5, when it is DUE: it is there in that unit, MISSED in the next
        DutiesProved x = of("t2,10,5;k0=1,5;");
        due("worked at when DUE", x.run(0, 15), 0);
        due("but MISSED then", x.run(0, 16), -9);
        due("first MISSED", x.first(0, 0), 16);
        due("MISSED by odd ones", x.jobs(0, 0, 1), 3);
        x.cost(0, 1);
        due("DONE in the unit that it is DUE", x.jobs(0, 0, 1), 0);
        due("all DONE", x.jobs(0, 0, 0), 6);
        // LATE above DISTANCE: of one task the one that came first (k 2 at 4), not the one DUE first
        // (k 1 at 5, DUE at 22): 0 at 0 .. 3 has k 0; k 2 at 4 .. 7
        DutiesProved y = of("t4,2,20;k0=4,3;");
        // come: k 0 at 0, k 1 at 5, k 2 at 4, k 3 at 9
        for (int u = 0; u < 16; u++) due("SERVED at " + u, y.run(0, u), 0);
        due("SERVED all DONE", y.jobs(0, 0, 0), 4);
        // by EARLIEST the one DUE first goes on: k 1 from 5 on
        DutiesProved z = of("t4,2,9;k0=4,3;");
        // by RATE: k 0 at 0-3, k 2 (DUE 13) at 4-7, k 1 (DUE 11) at 8-10: MISSED at 11, k 3 (DUE 15) 11-14
        due("SERVED by RATE: MISSED at", z.first(0, 0), 11);
        due("SERVED by RATE: DONE", z.jobs(0, 0, 0), 3);
        // by EARLIEST: k 0 at 0-3, k 2 at 4, k 1 at 5-8, k 2 at 9-11, k 3 at 12-14: MISSED at 15
        due("SERVED by EARLIEST: MISSED at", z.first(3, 0), 15);
        due("SERVED by EARLIEST: DONE", z.jobs(3, 0, 0), 3);
        // LATE as DISTANCE: k 1 and k 2 come in one unit, k 1 goes first
        DutiesProved w = of("t4,3,8;k0=4,3;");
        // come: k 0 at 0, k 1 and k 2 at 6 (DUE 11, 14), k 3 at 12 (DUE 17): 0-3, 6-9, 10-13, 14-16
        due("together: MISSED at", w.first(0, 0), 17);
        due("together: DONE", w.jobs(0, 0, 0), 3);
    }

    // Promise 27
    private static void jobs() {
        DutiesProved x = of("t5,6,6;t5,6,6;");
        due("DONE of 0", x.jobs(3, 0, 0), 10);
        due("MISSED of 0", x.jobs(3, 0, 1), 0);
        due("DONE of 1", x.jobs(3, 1, 0), 0);
        due("MISSED of 1, that at 60 too", x.jobs(3, 1, 1), 10);
        x.offset(1, 1);
        due("DUE at 61 isn't MISSED", x.jobs(0, 1, 1), 9);
        due("by EARLIEST none is DONE", x.jobs(3, 1, 0), 0);
        x.turns(1);
        due("jobs of one off", x.jobs(3, 1, 1), 0);
        due("59 is the last unit", of("t20,60,60;o0=40;").jobs(0, 0, 0), 1);
        due("40 and 20 are enough", of("t20,60,20;o0=40;").jobs(0, 0, 1), 0);
        due("41 and 20 aren't", of("t20,60,20;o0=41;").jobs(0, 0, 0), 0);
        due("but it isn't MISSED by 60", of("t20,60,20;o0=41;").jobs(0, 0, 1), 0);
        due("DUE at 60 is MISSED", of("t20,60,19;o0=41;").jobs(0, 0, 1), 1);
        due("DUE at 60, when", of("t20,60,19;o0=41;").first(0, 0), 60);
        // k 3 would be there from 63 on
        due("what never comes isn't MISSED", of("t1,18,3;k0=1,9;").jobs(0, 0, 1), 0);
        refused(x, "jobs by 4", 0, x.jobs(4, 2, 2), -2);
        refused(x, "jobs of nobody", 0, x.jobs(0, 2, 2), -1);
        refused(x, "jobs what 2", 1, x.jobs(0, 1, 2), -2);
        refused(x, "jobs what -1", 2, x.jobs(0, 1, -1), -2);
    }

    // Promise 28
    private static void first() {
        DutiesProved x = of("t5,6,6;t5,6,6;t5,6,6;");
        due("first when", x.first(3, 0), 6);
        due("first whose", x.first(3, 1), 1);
        x.rank(2, 1);
        due("first whose by RANK", x.first(2, 1), 0);
        x.kind(2, 5, 5);
        due("first when one is URGENT", x.first(0, 0), 1);
        due("first whose when one is URGENT", x.first(0, 1), 2);
        x.turns(1);
        x.turns(2);
        due("none whose, behind a run with some", x.first(0, 1), -9);
        due("none when, behind a run with some", x.first(0, 0), -9);
        DutiesProved y = of("t2,10,8;");
        due("none when", y.first(0, 0), -9);
        due("none whose", y.first(0, 1), -9);
        refused(y, "first by 4", 0, y.first(4, 0), -2);
        refused(y, "first what 2", 1, y.first(3, 2), -2);
        refused(y, "first what -1", 2, y.first(3, -1), -2);
    }

    // Promise 29
    private static void slack() {
        DutiesProved x = of("t2,10,8;t3,15,12;");
        // cost of 0 and 3 are 12 at most at 12, itself 8 at 8; with 7 busy is 24: 18 has 17; with 6 22
        due("slack of 0", x.slack(0), 5);
        due("slack of 1", x.slack(1), 7);
        DutiesProved y = of("t20,60,60;");
        due("above 20", y.slack(0), 40);
        due("none", of("t20,60,19;").slack(0), -9);
        due("0", of("t19,60,19;").slack(0), 0);
        due("it stays", y.task(0, 0), 20);
        DutiesProved z = of("t2,10,9;");
        z.kind(0, 3, 0);
        due("slack of a BURSTY one", z.slack(0), 2);
        z.kind(0, 4, 2);
        due("slack of a SERVED one", z.slack(0), 5);
        z.tasks(4, 30, 9);
        due("slack of a SERVED one of two", z.slack(0), 3);
        z.kind(1, 5, 8);
        due("slack when a demand is missed", z.slack(0), -9);
        y.turns(0);
        refused(y, "slack of nobody", 0, y.slack(1), -1);
        refused(y, "slack of one off", 0, y.slack(0), -3);
    }

    // Promise 30
    private static void slackBy() {
        DutiesProved x = of("t2,10,8;t3,15,12;");
        // by RATE: 0 with 7 has 7, 1 then 10; with 8 it is 8, and 1 is 11, then 19
        due("slackBy of 0", x.slackBy(0, 0), 5);
        due("slackBy of 1", x.slackBy(0, 1), 5);
        x.rank(1, 5);
        // by RANK: 1 with 6 has 0 at 8
        due("slackBy of 1 by RANK", x.slackBy(2, 1), 3);
        due("slackBy of 0 by RANK", x.slackBy(2, 0), 3);
        due("slackBy above 20", of("t20,60,60;").slackBy(1, 0), 40);
        due("no slackBy", of("t2,10,8;t20,60,19;").slackBy(1, 0), -9);
        x.turns(1);
        refused(x, "slackBy by 3", 0, x.slackBy(3, 2), -2);
        refused(x, "slackBy of nobody", 0, x.slackBy(0, 2), -1);
        refused(x, "slackBy of one off", 0, x.slackBy(0, 1), -3);
    }

    // Promise 31
    private static void load() {
        DutiesProved x = of("t2,10,8;t3,15,12;");
        due("load above", x.load(0), 2);
        due("load below", x.load(1), 5);
        x.kind(0, 2, 2);
        due("load by DISTANCE above", x.load(0), 11);
        due("load by DISTANCE below", x.load(1), 30);
        DutiesProved y = of("t20,59,1;t20,53,1;t20,47,1;t20,43,1;t20,41,1;t20,60,1;k5=2,1;");
        due("anew of large ones", y.anew(), -9);
        due("load of large ones below", y.load(1), 59L * 53 * 47 * 43 * 41 * 61);
        due("a load of 1", of("t2,2,1;").load(1), 1);
        x.turns(0);
        due("load without one above", x.load(0), 1);
        due("load without one below", x.load(1), 5);
        due("a load above 1", of("t5,2,1;").load(0), 5);
        refused(x, "load(2)", 0, LONGS - x.load(2), -2);
        refused(x, "load(-1)", 1, LONGS - x.load(-1), -2);
    }

    // Promise 32
    private static void anew() {
        DutiesProved x = of("t2,10,8;t3,15,12;t1,4,4;");
        due("anew", x.anew(), 60);
        x.turns(2);
        due("anew of two", x.anew(), 30);
        x.kind(1, 3, 1);
        due("anew by DISTANCE", x.anew(), 80);
        x.turns(0);
        x.turns(1);
        due("anew of none", x.anew(), 1);
        DutiesProved y = of("t1,59,1;t1,53,1;t1,47,1;t1,43,1;t1,41,1;t1,60,1;x4;");
        due("anew of five", y.anew(), 60 * 59 * 53 * 47 * 43);
        y.turns(4);
        due("anew too large", y.anew(), -9);
    }

    // Promise 33
    private static void missing() {
        DutiesProved x = of("t5,6,5;t5,6,5;");
        due("missing above", x.missing(3, 0), 5);
        due("missing below", x.missing(3, 1), 9);
        due("in least terms", x.missing(4, 0), 7);
        due("in least terms, below", x.missing(4, 1), 16);
        x.turns(1);
        due("always", x.missing(20, 0), 1);
        due("always, below", x.missing(20, 1), 1);
        DutiesProved y = of("t2,6,1;");
        due("only without it", y.missing(20, 0), 1);
        due("only without it, below", y.missing(20, 1), 20);
        // the 6th is always there
        DutiesProved z = of("t1,9,9;t1,9,9;t1,9,9;t1,9,9;t1,9,9;t2,9,1;");
        due("never", z.missing(2, 0), 0);
        due("never, below", z.missing(2, 1), 1);
        z.turns(5);
        due("without the 6th", z.missing(2, 0), 1);
        for (int i = 0; i < 5; i++) z.kind(i, 5, 7);
        // two there are enough: all of them DUE at 2; of 32 ways 1 + 5 + 10
        due("two of five", z.missing(2, 0), 1);
        due("two of five, below", z.missing(2, 1), 2);
        refused(z, "missing(1)", 0, LONGS - z.missing(1, 2), -4);
        refused(z, "missing(21)", 0, LONGS - z.missing(21, 2), -6);
        refused(z, "missing what 2", 0, LONGS - z.missing(20, 2), -2);
        refused(z, "missing what -1", 1, LONGS - z.missing(2, -1), -2);
    }

    // Promise 34
    private static void whatIs() {
        DutiesProved x = of("t5,10,4;t4,20,20;k0=0,2;x1;");
        due("of no row all", x.whatIs(0, 0), 63);
        due("of no row all figures", x.whatIs(0, 1), 1023);
        x.row(4);
        // points: 4 of 0, 2, 3; 2 of 1, 4, 5
        due("kinds by 4", x.whatIs(0, 0), 1 + 4 + 8);
        due("figures by 4", x.whatIs(0, 1), 1023);
        due("of one off", x.whatIs(1, 0), 63);
        x.row(14);
        due("kinds by 4 and 14", x.whatIs(0, 0), 0);
        x.turns(1);
        x.clear();
        x.row(2);
        due("kinds by 2", x.whatIs(0, 0), 2 + 16 + 32);
        due("figures by 2", x.whatIs(0, 1), 0);
        x.kind(0, 5, 0);
        due("figures by 2, URGENT", x.whatIs(0, 1), 4);
        due("the row stays", x.count(3), 1);
        due("the kind stays", x.kind(0, 0, 2), 50);
        DutiesProved y = new DutiesProved();
        y.tasks(5, 10, 5);
        y.kind(0, 1, 4);
        y.row(1);
        due("kinds by 1", y.whatIs(0, 0), 2 + 16 + 32);
        y.cost(0, 2);
        due("kinds by 1 of another cost", y.whatIs(0, 0), 2 + 16 + 32);
        y.kind(0, 1, 3);
        due("kinds by 1 of another figure", y.whatIs(0, 0), 0);
        due("figures by 1", y.whatIs(0, 1), 16 + 32 + 64 + 128 + 256 + 512);
        y.tasks(1, 20, 1);
        due("another one's point", y.whatIs(0, 0), 63);
        y.offset(0, 7);
        due("the OFFSET is nothing to it", y.whatIs(0, 1), 1023);
        refused(x, "whatIs of nobody", 0, x.whatIs(2, 2), -1);
        refused(x, "whatIs 2", 0, x.whatIs(0, 2), -2);
        refused(x, "whatIs -1", 1, x.whatIs(0, -1), -2);
    }

    // Promises 35, 37
    private static void rowAndClear() {
        DutiesProved x = new DutiesProved();
        due("clear of none", x.clear(), 0);
        due("row(0)", x.row(0), 1);
        due("row(99)", x.row(99), 2);
        refused(x, "row(-1)", 0, x.row(-1), -4);
        refused(x, "row(100)", 0, x.row(100), -6);
        due("two in the row", x.count(3), 2);
        for (int i = 3; i <= 8; i++) due("row " + i, x.row(1), i);
        refused(x, "a 9th", 1, x.row(1), -6);
        refused(x, "a 9th below", 1, x.row(-1), -4);
        due("clear", x.clear(), 8);
        due("none in the row", x.count(3), 0);
    }

    // Promise 36
    private static void judge() {
        DutiesProved x = of("t2,10,8;t3,15,12;t9,9,9;x2;r1=1;");
        int[][] rows = {{2, 5, 0}, {2, 5}, {}, {2, 6, 0}, {1, 5, 0}, {2, 5, 1}, {2, 5, 0, 0}, {5, 3, 0}};
        int[] byRate = {-9, 2, 0, 1, 0, 2, 3, 0};
        int[] byRank = {0, 0, 0, 0, 0, 0, 0, -9};
        for (int i = 0; i < rows.length; i++) {
            for (int v : rows[i]) x.row(v);
            due("judge by RATE " + i, x.judge(0), byRate[i]);
            due("the row has none then", x.count(3), 0);
            for (int v : rows[i]) x.row(v);
            due("judge by RANK " + i, x.judge(2), byRank[i]);
        }
        x.row(2);
        refused(x, "judge by 3", 0, x.judge(3), -2);
        refused(x, "judge by -1", 1, x.judge(-1), -2);
        due("the row stays", x.count(3), 1);
        DutiesProved y = of("t6,6,6;t6,6,6;");
        y.row(6);
        y.row(0);
        due("0 of one that has none", y.judge(0), -9);
    }

    // Promise 38
    private static void lots() {
        DutiesProved x = of("t5,6,6;t5,6,6;");
        due("lots without a miss", x.lots(20, 3, 0), 2);
        due("lots that fit", x.lots(20, 3, 1), 2);
        due("the cost stays", x.task(0, 0), 5);
        // from 0: 1013904223, that by 256 is 3960563, modulo 9 is 5: cost 6
        DutiesProved y = of("t5,20,5;");
        due("cost 6 at 5", y.lots(1, 0, 0), 0);
        DutiesProved z = of("t5,20,6;");
        due("cost 6 at 6", z.lots(1, 0, 0), 1);
        due("cost 6 at 6 fits", z.lots(1, 0, 1), 1);
        DutiesProved v = new DutiesProved();
        v.tasks(20, 20, 9);
        v.tasks(20, 60, 60);
        v.holds(0, 0, 1);
        v.holds(1, 0, 9);
        due("locks are nothing to a miss", v.lots(20, 5, 0), 20);
        due("but to those that fit", v.lots(20, 5, 1), 0);
        v.slack(0);
        v.whatIs(0, 0);
        due("the same once more", v.lots(20, 5, 0), 20);
        DutiesProved u = of("t1,60,12;t1,20,60;r1=9;");
        due("all fit by LIMIT", u.lots(20, 5, 1), 20);
        // one that is off is drawn for, too, and z goes on behind it
        DutiesProved w = of("t5,20,9;t5,20,1;x0;");
        int good = 0;
        int seed = 77;
        for (int i = 0; i < 40; i++) {
            seed = seed * 1664525 + 1013904223;
            int cost = (seed & 0x7fffffff) / 256 % 9 + 1;
            if (i % 2 == 1 && cost == 1) good++;
        }
        due("lots with one off", w.lots(20, 77, 0), good);
        refused(w, "lots(0)", 0, w.lots(0, 1, 2), -4);
        refused(w, "lots(21)", 0, w.lots(21, 1, 2), -6);
        refused(w, "lots what 2", 0, w.lots(20, 1, 2), -2);
        refused(w, "lots what -1", 1, w.lots(1, 1, -1), -2);
    }

    // Promises 39, 40
    private static void imageAndOn() {
        DutiesProved x = new DutiesProved();
        refused(x, "on without an image", 0, x.on(), -3);
        due("image of none", x.image(), 0);
        due("on from none", x.on(), 0);
        told(x, "t1,10,5;t2,20,15;o0=3;r1=4;k1=2,5;h1,2=6;x0;");
        due("image of two", x.image(), 2);
        told(x, "t3,30,25;o0=9;r1=9;k1=5,1;h1,2=1;x0;x1;h2,1=5;k2=3,3;");
        x.cost(0, 9);
        x.row(5);
        tell(x, "t");
        due("three tasks", x.count(0), 3);
        due("on from two", x.on(), 2);
        due("costs as then", x.task(0, 0), 1);
        due("offset as then", x.task(0, 3), 3);
        due("rank as then", x.task(1, 4), 4);
        due("kind as then", x.kind(1, 0, 0), 25);
        due("held as then", x.holds(1, 2, 0), 6);
        due("on as then", x.count(1), 2);
        due("the row isn't", x.count(3), 1);
        due("letters aren't", x.count(4), 1);
        due("refusals aren't", x.count(13), 1);
        due("on once more", x.on(), 2);
        due("kind as then once more", x.kind(1, 0, 0), 25);
        due("a task more", x.tasks(3, 40, 35), 2);
        due("it has no kind", x.task(2, 5), 0);
        due("it has no figure", x.task(2, 6), 0);
        due("it holds none", x.holds(2, 1, 0), 0);
        due("its DISTANCE", x.task(2, 8), 40);
        due("its LIMIT", x.task(2, 10), 35);
    }

    // Promise 41
    private static void count() {
        DutiesProved x = of("t1,10,5;t2,20,15;t4,20,15;x1;");
        due("count tasks", x.count(0), 3);
        due("count on", x.count(1), 5);
        due("count costs", x.count(2), 5);
        x.row(1);
        due("count row", x.count(3), 1);
        x.letter(1);
        x.letter(1);
        due("count letters", x.count(4), 2);
        x.turns(9);
        x.fits(9);
        x.fits(8);
        x.slack(1);
        x.row(-1);
        x.row(100);
        x.order(0, -5);
        x.load(7);
        x.missing(1, 0);
        int[] refusals = {1, 3, 1, 3, 0, 1};
        for (int i = 0; i < 6; i++) due("count(" + (11 + i) + ")", x.count(11 + i), refusals[i]);
        for (int what : new int[] {LOW, -1, 5, 10, 17, HIGH}) due("count(" + what + ")", x.count(what), -9);
        due("that isn't refused", x.count(12), 3);
    }
}
