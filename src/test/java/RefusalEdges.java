/** Each REFUSAL, in the order in which its promise tells them; it changes nothing but how many there were. */
final class RefusalEdges {
    private static final int NOTHING = 0;
    private static final int SOME = 1;
    private static final int FULL = 2;

    private interface Call {
        long on(DutiesProved x);
    }

    private RefusalEdges() {
    }

    static void all() {
        ofLetters();
        ofTasks();
        ofSetters();
        ofKindsAndLocks();
        ofLooks();
        ofOrders();
        ofRuns();
        ofMore();
        ofLongs();
        ofRows();
        whenFull();
        whenNothing();
        noRefusals();
    }

    private static DutiesProved build(int state) {
        DutiesProved x = new DutiesProved();
        if (state == NOTHING) return x;
        boolean full = state == FULL;
        Sentence.told(x, "t2,10,8;t3,15,12;o0=3;o1=59;r1=9;k1=2,3;h1,0=9;h1,3=2;h0,1=1;");
        x.image();
        Sentence.told(x, "t4,30,25;k2=4,1;r2=1;h2,1=7;x2;o0=0;");
        if (full) Sentence.told(x, "t1,40,40;t1,50,50;t1,60,60;");
        int[] row = full ? new int[] {2, 5, 0, 6, 7, 8, 99, 0} : new int[] {2, 5, 0};
        for (int v : row) x.row(v);
        Sentence.tell(x, full ? "x0;".repeat(32) : "x2;t1,2,1;");
        return x;
    }

    private static void refused(int state, String what, Call call, int refusal) {
        DutiesProved one = build(state);
        DutiesProved other = build(state);
        long got = call.on(other);
        Sentence.due(what, got > 0 ? Sentence.LONGS - got : got, refusal);
        Twins.same(what + " was refused", one, other, refusal);
    }

    private static void some(String what, int refusal, Call call) {
        refused(SOME, what, call, refusal);
    }

    private static void ofLetters() {
        Sentence.says(2, "-4; -6 (255; 96, too).");
        some("letter(-1)", -4, x -> x.letter(-1));
        some("letter(256)", -6, x -> x.letter(256));
        // the ROW is told as it should be, so that what changes it is seen
        Sentence.due("the ROW of some", build(SOME).judge(0), -9);
        Sentence.due("the ROW of many", build(FULL).judge(0), 6);
    }

    private static void ofTasks() {
        Sentence.says(4, "-4 (1, 2, 1); -6 (20, 60, 60; a TASK more, too).");
        some("tasks(0, 61, 61)", -4, x -> x.tasks(0, 61, 61));
        some("tasks(21, 1, 61)", -4, x -> x.tasks(21, 1, 61));
        some("tasks(21, 61, 0)", -4, x -> x.tasks(21, 61, 0));
        some("tasks(21, 2, 1)", -6, x -> x.tasks(21, 2, 1));
        some("tasks(1, 61, 1)", -6, x -> x.tasks(1, 61, 1));
        some("tasks(1, 2, 61)", -6, x -> x.tasks(1, 2, 61));
        Sentence.says(5, "It is ON, or not: 1 ON, 0. -1.");
        some("turns(3)", -1, x -> x.turns(3));
        some("turns(-1)", -1, x -> x.turns(-1));
    }

    private static void ofSetters() {
        Sentence.says(6, "OFFSET: the old. -1; -4; -6 59.");
        some("offset(3, -1)", -1, x -> x.offset(3, -1));
        some("offset(3, 60)", -1, x -> x.offset(3, 60));
        some("offset(0, -1)", -4, x -> x.offset(0, -1));
        some("offset(0, 60)", -6, x -> x.offset(0, 60));
        Sentence.says(7, "RANK: the old. -1; -4; -6 9.");
        some("rank(3, -1)", -1, x -> x.rank(3, -1));
        some("rank(3, 10)", -1, x -> x.rank(3, 10));
        some("rank(0, -1)", -4, x -> x.rank(0, -1));
        some("rank(0, 10)", -6, x -> x.rank(0, 10));
        Sentence.says(8, "COST: the old. -1; -4 1; -6 20.");
        some("cost(3, 0)", -1, x -> x.cost(3, 0));
        some("cost(3, 21)", -1, x -> x.cost(3, 21));
        some("cost(0, 0)", -4, x -> x.cost(0, 0));
        some("cost(0, 21)", -6, x -> x.cost(0, 21));
    }

    private static void ofKindsAndLocks() {
        Sentence.says(9, "10 times the KIND and the FIGURE that were. -1; -2; -4; -6 9.");
        some("kind(3, 6, -1)", -1, x -> x.kind(3, 6, -1));
        some("kind(3, 0, 10)", -1, x -> x.kind(3, 0, 10));
        some("kind(0, 6, -1)", -2, x -> x.kind(0, 6, -1));
        some("kind(0, -1, 10)", -2, x -> x.kind(0, -1, 10));
        some("kind(0, 5, -1)", -4, x -> x.kind(0, 5, -1));
        some("kind(0, 5, 10)", -6, x -> x.kind(0, 5, 10));
        Sentence.says(10, "For how long it HOLDS the LOCK: the old. -1 either; -4; -6 9.");
        some("holds(3, 4, -1)", -1, x -> x.holds(3, 4, -1));
        some("holds(3, 0, 10)", -1, x -> x.holds(3, 0, 10));
        some("holds(0, 4, -1)", -1, x -> x.holds(0, 4, -1));
        some("holds(0, -1, 10)", -1, x -> x.holds(0, -1, 10));
        some("holds(0, 0, -1)", -4, x -> x.holds(0, 0, -1));
        some("holds(0, 0, 10)", -6, x -> x.holds(0, 0, 10));
    }

    private static void ofLooks() {
        Sentence.says(11, "10 LIMIT. -1; -2.");
        some("task(3, 11)", -1, x -> x.task(3, 11));
        some("task(0, 11)", -2, x -> x.task(0, 11));
        Sentence.says(12, "ASKED within t. -1; -4; -6 600.");
        some("asked(3, -1)", -1, x -> x.asked(3, -1));
        some("asked(3, 601)", -1, x -> x.asked(3, 601));
        some("asked(0, -1)", -4, x -> x.asked(0, -1));
        some("asked(0, 601)", -6, x -> x.asked(0, 601));
        Sentence.says(13, "OWED within t. -1; -4; -6 600.");
        some("owed(3, -1)", -1, x -> x.owed(3, -1));
        some("owed(3, 601)", -1, x -> x.owed(3, 601));
        some("owed(0, -1)", -4, x -> x.owed(0, -1));
        some("owed(0, 601)", -6, x -> x.owed(0, 601));
        Sentence.says(14, "DEMAND. -4; -6 600.");
        some("demand(-1)", -4, x -> x.demand(-1));
        some("demand(601)", -6, x -> x.demand(601));
        Sentence.says(16, "-4 below -1.");
        some("point(-2)", -4, x -> x.point(-2));
    }

    private static void ofOrders() {
        Sentence.says(19, "The i-th TASK in ORDER; -9. -2 (3, too); -4.");
        some("order(3, -1)", -2, x -> x.order(3, -1));
        some("order(-1, -1)", -2, x -> x.order(-1, -1));
        some("order(2, -1)", -4, x -> x.order(2, -1));
        Sentence.says(20, "CEILING; -9. -2 (3, too); -1.");
        some("ceiling(3, 4)", -2, x -> x.ceiling(3, 4));
        some("ceiling(2, 4)", -1, x -> x.ceiling(2, 4));
        Sentence.says(21, "BLOCKING. -2 (3, too); -1; -3 it isn't ON.");
        some("blocking(3, 3)", -2, x -> x.blocking(3, 3));
        some("blocking(2, 3)", -1, x -> x.blocking(2, 3));
        some("blocking(2, 2)", -3, x -> x.blocking(2, 2));
        Sentence.says(22, "RESPONSE; -9. -2 (3, too); -1; -3 it isn't ON.");
        some("response(3, 3)", -2, x -> x.response(3, 3));
        some("response(3, 2)", -2, x -> x.response(3, 2));
        some("response(2, 3)", -1, x -> x.response(2, 3));
        some("response(2, 2)", -3, x -> x.response(2, 2));
        Sentence.says(23, "(it, too; -9 none). -2 (3, too); -1; -3.");
        some("rounds(3, 3)", -2, x -> x.rounds(3, 3));
        some("rounds(2, 3)", -1, x -> x.rounds(2, 3));
        some("rounds(2, 2)", -3, x -> x.rounds(2, 2));
        Sentence.says(24, "TASKS (bits) that FIT. -2 (3, too).");
        some("fits(3)", -2, x -> x.fits(3));
        Sentence.says(25, "-9 (there is none; behind all). -4.");
        some("lawful(-1)", -4, x -> x.lawful(-1));
    }

    private static void ofRuns() {
        Sentence.says(26, "-9 none. -2; -4; -6 59.");
        some("run(4, -1)", -2, x -> x.run(4, -1));
        some("run(4, 60)", -2, x -> x.run(4, 60));
        some("run(3, -1)", -4, x -> x.run(3, -1));
        some("run(3, 60)", -6, x -> x.run(3, 60));
        Sentence.says(27, "-2 POLICY; -1; -2 what.");
        some("jobs(4, 3, 2)", -2, x -> x.jobs(4, 3, 2));
        some("jobs(3, 3, 2)", -1, x -> x.jobs(3, 3, 2));
        some("jobs(3, 0, 2)", -2, x -> x.jobs(3, 0, 2));
        Sentence.says(28, "(of several the least, 1); -9. -2 either.");
        some("first(4, 2)", -2, x -> x.first(4, 2));
        some("first(4, 0)", -2, x -> x.first(4, 0));
        some("first(3, 2)", -2, x -> x.first(3, 2));
    }

    private static void ofMore() {
        Sentence.says(29, "SLACK by MISS; -9. -1; -3 it isn't ON.");
        some("slack(3)", -1, x -> x.slack(3));
        some("slack(2)", -3, x -> x.slack(2));
        Sentence.says(30, "SLACK by a POLICY; -9. -2 (3, too); -1; -3.");
        some("slackBy(3, 3)", -2, x -> x.slackBy(3, 3));
        some("slackBy(3, 2)", -2, x -> x.slackBy(3, 2));
        some("slackBy(2, 3)", -1, x -> x.slackBy(2, 3));
        some("slackBy(2, 2)", -3, x -> x.slackBy(2, 2));
        Sentence.says(34, "FIGURES (1). -1; -2.");
        some("whatIs(3, 2)", -1, x -> x.whatIs(3, 2));
        some("whatIs(0, 2)", -2, x -> x.whatIs(0, 2));
        Sentence.says(38, "all FIT (1). -4 1; -6 20; -2.");
        some("lots(0, 1, 2)", -4, x -> x.lots(0, 1, 2));
        some("lots(21, 1, 2)", -6, x -> x.lots(21, 1, 2));
        some("lots(20, 1, 2)", -2, x -> x.lots(20, 1, 2));
    }

    private static void ofLongs() {
        Sentence.says(31, "Of longs 4000000000000000000 less them (-1 as 4000000000000000001).");
        DutiesProved x = new DutiesProved();
        Sentence.due("load(2)", x.load(2), 4000000000000000002L);
        some("load(2)", -2, y -> y.load(2));
        some("load(-1)", -2, y -> y.load(-1));
        Sentence.says(33, "part 0 above, 1 below the line. Refused as told: -4 2; -6 20; -2.");
        Sentence.due("missing(1, 2)", x.missing(1, 2), 4000000000000000004L);
        Sentence.due("missing(21, 2)", x.missing(21, 2), 4000000000000000006L);
        Sentence.due("missing(2, 2)", x.missing(2, 2), 4000000000000000002L);
        some("missing(1, 2)", -4, y -> y.missing(1, 2));
        some("missing(21, 2)", -6, y -> y.missing(21, 2));
        some("missing(20, 2)", -2, y -> y.missing(20, 2));
    }

    private static void ofRows() {
        Sentence.says(35, "how many. -4; -6 (99; 8, too).");
        some("row(-1)", -4, x -> x.row(-1));
        some("row(100)", -6, x -> x.row(100));
        Sentence.says(36, "-2 (3, too; the ROW stays).");
        some("judge(3)", -2, x -> x.judge(3));
        some("judge(-1)", -2, x -> x.judge(-1));
    }

    private static void whenFull() {
        Sentence.says(4, "-6 ROOM: a number above the greatest, no room.");
        refused(FULL, "letter(0)", x -> x.letter(0), -6);
        refused(FULL, "letter(-1)", x -> x.letter(-1), -4);
        refused(FULL, "letter(256)", x -> x.letter(256), -6);
        refused(FULL, "tasks(1, 2, 1)", x -> x.tasks(1, 2, 1), -6);
        refused(FULL, "tasks(1, 2, 0)", x -> x.tasks(1, 2, 0), -4);
        refused(FULL, "tasks(1, 2, 61)", x -> x.tasks(1, 2, 61), -6);
        refused(FULL, "row(0)", x -> x.row(0), -6);
        refused(FULL, "row(-1)", x -> x.row(-1), -4);
        refused(FULL, "row(100)", x -> x.row(100), -6);
        refused(FULL, "turns(6)", x -> x.turns(6), -1);
        refused(FULL, "slack(6)", x -> x.slack(6), -1);
        refused(FULL, "slack(2)", x -> x.slack(2), -3);
    }

    private static void whenNothing() {
        Sentence.says(40, "-3 STATE: it is not as it must be.");
        refused(NOTHING, "on()", x -> x.on(), -3);
        Sentence.says(1, "-1 NOBODY: no such TASK, LOCK. -2 OTHER: what, KIND, POLICY.");
        refused(NOTHING, "turns(0)", x -> x.turns(0), -1);
        refused(NOTHING, "kind(0, 6, 10)", x -> x.kind(0, 6, 10), -1);
        refused(NOTHING, "holds(0, 0, 0)", x -> x.holds(0, 0, 0), -1);
        refused(NOTHING, "response(0, 0)", x -> x.response(0, 0), -1);
        refused(NOTHING, "jobs(0, 0, 2)", x -> x.jobs(0, 0, 2), -1);
        refused(NOTHING, "ceiling(0, 4)", x -> x.ceiling(0, 4), -1);
        refused(NOTHING, "judge(3)", x -> x.judge(3), -2);
    }

    private static void noRefusals() {
        Sentence.says(41, "REFUSALS (the call answers the number, the first that fits in the order in which it tells them;");
        DutiesProved x = build(SOME);
        x.clear();
        x.point(600);
        x.order(0, 6);
        x.ceiling(0, 2);
        x.lawful(6);
        x.first(0, 0);
        x.judge(0);
        x.count(5);
        x.count(-1);
        x.letter('z');
        x.tells();
        x.tells();
        x.anew();
        x.slack(0);
        for (int what = 11; what <= 16; what++) Sentence.due("none was refused", x.count(what), 0);
    }
}
