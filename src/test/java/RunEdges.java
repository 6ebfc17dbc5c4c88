/** Promises 26 to 28: a RUN of 60 UNITS, its JOBS and the first that is MISSED. */
final class RunEdges {
    private static final int[] OTHER_POLICIES = {Sentence.LOW, -1, 4, Sentence.HIGH};

    private RunEdges() {
    }

    static void all() {
        unitsOutside();
        policiesOutside();
        firstAndLastUnit();
        thereFromThen();
        dueWhenOver();
        dueAtTheEnd();
        missedAheadOfWork();
        lateByOne();
        comesWhenDue();
        comesBehindDue();
        comesAtTheEnd();
        twoOfBursty();
        fewOfServed();
        farOfSporadic();
        workedByOrder();
        workedByEarliest();
        leastOfEarliest();
        ofOneTask();
        onlyThoseOn();
        mostJobs();
        firstMissed();
        firstOfSeveral();
        jobsOutside();
    }

    /** The units at which the TASK is worked at. */
    private static void dueUnits(DutiesProved x, int policy, int task, int... units) {
        int next = 0;
        for (int unit = 0; unit < 60; unit++) {
            boolean due = next < units.length && units[next] == unit;
            if (due) next++;
            boolean got = x.run(policy, unit) == task;
            Sentence.due("TASK " + task + " by " + policy + " in " + unit, got ? 1 : 0, due ? 1 : 0);
        }
    }

    private static void dueJobs(String what, DutiesProved x, int task, int done, int missed) {
        for (int policy = 0; policy <= 3; policy++) {
            Sentence.due(what + ": DONE by " + policy, x.jobs(policy, task, 0), done);
            Sentence.due(what + ": MISSED by " + policy, x.jobs(policy, task, 1), missed);
        }
    }

    private static void unitsOutside() {
        Sentence.says(26, "The TASK that is worked at in a UNIT of the RUN; -9 none. -2; -4; -6 59.");
        DutiesProved x = Sentence.of("t1,60,60;t1,60,60;o1=59;");
        for (int policy = 0; policy <= 3; policy++) {
            Sentence.due("at LOW", x.run(policy, Sentence.LOW), -4);
            Sentence.due("at -1", x.run(policy, -1), -4);
            Sentence.due("at 0", x.run(policy, 0), 0);
            Sentence.due("at 1", x.run(policy, 1), -9);
            Sentence.due("at 58", x.run(policy, 58), -9);
            Sentence.due("at 59", x.run(policy, 59), 1);
            Sentence.due("at 60", x.run(policy, 60), -6);
            Sentence.due("at HIGH", x.run(policy, Sentence.HIGH), -6);
        }
    }

    private static void policiesOutside() {
        Sentence.says(26, "The TASK that is worked at in a UNIT of the RUN; -9 none. -2; -4; -6 59.");
        DutiesProved x = Sentence.of("t1,60,60;");
        for (int policy : OTHER_POLICIES) {
            for (int unit : new int[] {-1, 0, 59, 60}) Sentence.due("run by " + policy, x.run(policy, unit), -2);
        }
        Sentence.due("by the last POLICY", x.run(3, 0), 0);
    }

    private static void firstAndLastUnit() {
        Sentence.says(26, "A RUN by a POLICY: 60 UNITS, 0 .. 59.");
        DutiesProved x = Sentence.of("t20,20,20;");
        for (int policy = 0; policy <= 3; policy++) {
            for (int unit = 0; unit < 60; unit++) Sentence.due("at " + unit, x.run(policy, unit), 0);
        }
        dueJobs("no UNIT is free", x, 0, 3, 0);
        x.cost(0, 19);
        for (int unit : new int[] {19, 39, 59}) Sentence.due("free at " + unit, x.run(0, unit), -9);
    }

    private static void thereFromThen() {
        Sentence.says(26, "it is there from OFFSET and k times DISTANCE on");
        for (int offset : new int[] {0, 1, 30, 59}) {
            DutiesProved x = Sentence.of("t1,20,1;");
            x.offset(0, offset);
            for (int unit = 0; unit < 60; unit++) {
                boolean there = unit >= offset && (unit - offset) % 20 == 0;
                Sentence.due("OFFSET " + offset + " at " + unit, x.run(0, unit), there ? 0 : -9);
            }
        }
        DutiesProved y = Sentence.of("t1,2,2;o0=59;");
        dueUnits(y, 3, 0, 59);
    }

    private static void dueWhenOver() {
        Sentence.says(27, "is DUE when its OFFSET, k times DISTANCE and LIMIT are over");
        dueJobs("COST as LIMIT", Sentence.of("t5,20,5;"), 0, 3, 0);
        dueJobs("COST 1 above LIMIT", Sentence.of("t6,20,5;"), 0, 0, 3);
        dueJobs("COST as LIMIT of an URGENT one", Sentence.of("t5,20,9;k0=5,4;"), 0, 3, 0);
        dueJobs("COST 1 above LIMIT of an URGENT one", Sentence.of("t5,20,9;k0=5,5;"), 0, 0, 3);
        dueJobs("1 of 1", Sentence.of("t1,2,1;"), 0, 30, 0);
        dueJobs("2 of 1", Sentence.of("t2,2,1;"), 0, 0, 30);
        DutiesProved x = Sentence.of("t6,20,5;o0=7;");
        dueUnits(x, 1, 0, 7, 8, 9, 10, 11, 27, 28, 29, 30, 31, 47, 48, 49, 50, 51);
        Sentence.due("MISSED then", x.first(1, 0), 12);
    }

    private static void dueAtTheEnd() {
        Sentence.says(27, "Behind UNIT 59 JOBS that are DUE at 60 or ahead of it are MISSED, too, at 60.");
        dueJobs("DUE at 60", Sentence.of("t20,60,19;o0=41;"), 0, 0, 1);
        dueJobs("DUE at 61", Sentence.of("t20,60,20;o0=41;"), 0, 0, 0);
        dueJobs("DONE in UNIT 59", Sentence.of("t20,60,20;o0=40;"), 0, 1, 0);
        dueJobs("DUE at 60, comes in UNIT 59", Sentence.of("t2,60,1;o0=59;"), 0, 0, 1);
        dueJobs("DUE at 60, DONE in UNIT 59", Sentence.of("t1,60,1;o0=59;"), 0, 1, 0);
        for (int policy = 0; policy <= 3; policy++) {
            Sentence.due("at 60", Sentence.of("t2,60,1;o0=59;").first(policy, 0), 60);
            Sentence.due("none", Sentence.of("t2,60,2;o0=59;").first(policy, 0), -9);
            Sentence.due("at 59", Sentence.of("t2,60,1;o0=58;").first(policy, 0), 59);
        }
    }

    private static void missedAheadOfWork() {
        Sentence.says(26, "JOBS that are there and DUE at that UNIT or ahead of it are MISSED (they are there no more)");
        for (int policy = 0; policy <= 3; policy++) {
            DutiesProved x = Sentence.of("t20,60,3;t1,60,60;r0=1;");
            dueUnits(x, policy, 0, 0, 1, 2);
            dueUnits(x, policy, 1, 3);
            Sentence.due("MISSED at its LIMIT", x.first(policy, 0), 3);
        }
        // the next one comes when the one ahead of it is MISSED
        DutiesProved y = Sentence.of("t3,2,2;");
        for (int unit = 0; unit < 60; unit++) Sentence.due("at " + unit, y.run(0, unit), 0);
        dueJobs("all", y, 0, 0, 30);
    }

    private static void lateByOne() {
        Sentence.says(26, "those with k odd LATE later");
        for (int kind : new int[] {1, 4}) {
            DutiesProved x = Sentence.made(Sentence.task(1, 12, 20, kind, 9));
            dueUnits(x, 0, 0, 0, 21, 24, 45, 48);
            dueJobs("KIND " + kind, x, 0, 5, 0);
            x.kind(0, kind, 0);
            if (kind == 1) dueUnits(x, 3, 0, 0, 12, 24, 36, 48);
        }
        DutiesProved y = Sentence.made(Sentence.task(1, 12, 20, 1, 1));
        dueUnits(y, 2, 0, 0, 13, 24, 37, 48);
        y.offset(0, 11);
        dueUnits(y, 2, 0, 11, 24, 35, 48, 59);
    }

    private static void comesWhenDue() {
        Sentence.says(26, "(one that comes when it is DUE, or behind that, is MISSED in the next UNIT)");
        // k 1 is DUE at 25, and comes then
        DutiesProved x = Sentence.made(Sentence.task(2, 20, 5, 1, 5));
        dueUnits(x, 3, 0, 0, 1, 25, 40, 41);
        dueJobs("when it is DUE", x, 0, 2, 1);
        Sentence.due("in the next UNIT", x.first(3, 0), 26);
        x.kind(0, 1, 4);
        dueUnits(x, 3, 0, 0, 1, 24, 40, 41);
        Sentence.due("one ahead of that: when DUE", x.first(3, 0), 25);
    }

    private static void comesBehindDue() {
        Sentence.says(27, "or behind that, is MISSED in the next UNIT)");
        // k 1 is DUE at 21, and comes at 29
        DutiesProved x = Sentence.made(Sentence.task(2, 20, 1, 1, 9));
        dueUnits(x, 3, 0, 0, 29, 40);
        dueJobs("all", x, 0, 0, 3);
        x.offset(0, 1);
        Sentence.due("the first", x.first(0, 0), 2);
        x.cost(0, 1);
        // in the UNIT in which it comes it is there, and so can be DONE
        dueJobs("of COST 1", x, 0, 3, 0);
    }

    private static void comesAtTheEnd() {
        Sentence.says(27, "then JOBS come that are there from that UNIT on");
        // k 1 is DUE at 51, and comes at 59, or 60
        dueJobs("comes at 59", Sentence.made(Sentence.task(2, 50, 1, 1, 9)), 0, 0, 2);
        Sentence.due("at 60", Sentence.made(Sentence.task(2, 50, 60, 1, 9)).jobs(0, 0, 1), 0);
        dueUnits(Sentence.made(Sentence.task(2, 50, 1, 1, 9)), 0, 0, 0, 59);
        dueUnits(Sentence.made(Sentence.task(2, 51, 1, 1, 9)), 0, 0, 0);
    }

    private static void twoOfBursty() {
        Sentence.says(26, "of BURSTY ones each is two JOBS");
        DutiesProved x = Sentence.made(Sentence.task(2, 20, 4, 3, 0));
        dueUnits(x, 0, 0, 0, 1, 2, 3, 20, 21, 22, 23, 40, 41, 42, 43);
        dueJobs("both in time", x, 0, 6, 0);
        x.kind(0, 3, 9);
        dueUnits(x, 0, 0, 0, 1, 2, 3, 29, 30, 31, 32, 58, 59);
        dueJobs("the last two", x, 0, 5, 0);
        x.cost(0, 3);
        dueJobs("one of two", x, 0, 2, 2);
        x.cost(0, 5);
        dueJobs("neither", x, 0, 0, 4);
    }

    private static void fewOfServed() {
        Sentence.says(27, "of SERVED ones there are FIGURE and 1 at most.");
        for (int figure = 0; figure <= 9; figure++) {
            DutiesProved x = Sentence.made(Sentence.task(1, 2, 60, 4, figure));
            dueJobs("FIGURE " + figure, x, 0, figure + 1, 0);
        }
        DutiesProved y = Sentence.made(Sentence.task(2, 2, 1, 4, 0));
        dueUnits(y, 3, 0, 0);
        dueJobs("that one is MISSED", y, 0, 0, 1);
    }

    private static void farOfSporadic() {
        Sentence.says(26, "it is there from OFFSET and k times DISTANCE on");
        DutiesProved x = Sentence.made(Sentence.task(1, 20, 60, 2, 9));
        dueUnits(x, 0, 0, 0, 29, 58);
        x.kind(0, 2, 0);
        dueUnits(x, 0, 0, 0, 20, 40);
        x.kind(0, 5, 9);
        dueUnits(x, 0, 0, 0, 20, 40);
    }

    private static void workedByOrder() {
        Sentence.says(26, "by RATE, LIMIT, RANK one of the first TASK in ORDER that has some");
        DutiesProved x = Sentence.of("t3,60,50;t3,59,60;t3,60,60;o1=1;o2=2;r2=1;");
        dueUnits(x, 0, 1, 1, 2, 3);
        dueUnits(x, 1, 0, 0, 1, 2);
        dueUnits(x, 2, 2, 2, 3, 4);
        dueUnits(x, 2, 0, 0, 1, 5);
        DutiesProved alike = Sentence.made(Sentence.times(6, Sentence.task(10, 60, 60)));
        for (int policy = 0; policy <= 3; policy++) {
            for (int unit = 0; unit < 60; unit++) {
                Sentence.due("alike, at " + unit, alike.run(policy, unit), unit / 10);
            }
        }
    }

    private static void workedByEarliest() {
        Sentence.says(26, "by EARLIEST one that is DUE first (of several one of the least TASK)");
        // DUE at 40, 40, 39
        DutiesProved x = Sentence.of("t2,60,30;t2,60,40;t2,60,38;o0=10;o1=0;o2=1;");
        dueUnits(x, 3, 1, 0, 3);
        dueUnits(x, 3, 2, 1, 2);
        x.offset(1, 10);
        x.offset(2, 10);
        // DUE at 40, 50, 48
        dueUnits(x, 3, 0, 10, 11);
        dueUnits(x, 3, 2, 12, 13);
        dueUnits(x, 3, 1, 14, 15);
    }

    private static void leastOfEarliest() {
        Sentence.says(26, "(of several one of the least TASK)");
        // DUE at 40, 41, 40
        DutiesProved x = Sentence.of("t2,60,30;t2,60,40;t2,60,38;o0=10;o1=10;o2=10;k1=5,9;k2=5,8;");
        dueUnits(x, 3, 0, 10, 11);
        dueUnits(x, 3, 2, 12, 13);
        x.offset(0, 11);
        // DUE at 41, 41, 40
        dueUnits(x, 3, 2, 10, 11);
        dueUnits(x, 3, 0, 12, 13);
        dueUnits(x, 3, 1, 14, 15);
    }

    private static void ofOneTask() {
        Sentence.says(27, "of one TASK the one that came first (of both JOBS of a BURSTY one either: they are alike)");
        // by RANK: 1 in UNITS 1 and 2; k 0 in 0, 3 .. 5, though k 1 comes at 5 (k 0 is DUE at 7)
        DutiesProved x = Sentence.of("t4,5,7;t2,60,60;r1=1;o1=1;");
        Sentence.due("by RANK: k 1 goes on", x.run(2, 9), 0);
        Sentence.due("by RANK: none is MISSED", x.first(2, 0), -9);
        DutiesProved both = Sentence.made(Sentence.task(3, 20, 5, 3, 0));
        Sentence.due("one of both is DONE", both.jobs(0, 0, 0), 3);
        Sentence.due("by EARLIEST, too", both.jobs(3, 0, 0), 3);
    }

    private static void onlyThoseOn() {
        Sentence.says(27, "JOBS of each TASK that is ON");
        DutiesProved x = Sentence.of("t1,10,10;t1,10,10;x0;");
        dueJobs("not ON", x, 0, 0, 0);
        dueJobs("ON", x, 1, 6, 0);
        for (int unit = 0; unit < 60; unit++) Sentence.due("at " + unit, x.run(0, unit), unit % 10 == 0 ? 1 : -9);
        x.turns(1);
        dueJobs("none is ON", x, 1, 0, 0);
        Sentence.due("none MISSED", x.first(3, 0), -9);
    }

    private static void mostJobs() {
        Sentence.says(27, "Of the RUN: how many JOBS of the TASK are DONE (what 0), MISSED (1).");
        dueJobs("60 DONE", Sentence.made(Sentence.task(1, 2, 2, 3, 0)), 0, 60, 0);
        dueJobs("60 MISSED", Sentence.made(Sentence.task(20, 2, 2, 3, 0)), 0, 0, 60);
        DutiesProved x = Sentence.made(Sentence.times(6, Sentence.task(20, 2, 2, 3, 0)));
        for (int task = 0; task < 6; task++) dueJobs("360 MISSED", x, task, 0, 60);
        // none is DUE by 60: 360 are there at the end
        DutiesProved y = Sentence.made(Sentence.times(6, Sentence.task(20, 2, 60, 3, 0)));
        dueJobs("3 of the first are DONE", Sentence.made(Sentence.task(20, 2, 60, 3, 0)), 0, 3, 0);
        Sentence.due("of six the first's", y.jobs(0, 0, 0), 3);
        for (int task = 1; task < 6; task++) Sentence.due("of six", y.jobs(0, task, 0), 0);
        // both that came at 0 are DUE at 60: of the first they are DONE
        Sentence.due("of the first none is MISSED", y.jobs(3, 0, 1), 0);
        Sentence.due("of the second one is DONE", y.jobs(3, 1, 0), 1);
        Sentence.due("of the second one is MISSED", y.jobs(3, 1, 1), 1);
        for (int task = 2; task < 6; task++) Sentence.due("two at 60", y.jobs(3, task, 1), 2);
    }

    private static void firstMissed() {
        Sentence.says(28, "The first JOB of the RUN that is MISSED: when (what 0), its TASK (of several the least, 1); -9.");
        DutiesProved x = Sentence.of("t2,60,1;");
        for (int policy = 0; policy <= 3; policy++) {
            Sentence.due("the least", x.first(policy, 0), 1);
            Sentence.due("whose", x.first(policy, 1), 0);
        }
        x.offset(0, 59);
        Sentence.due("the greatest", x.first(0, 0), 60);
        Sentence.due("whose at 60", x.first(0, 1), 0);
        x.cost(0, 1);
        Sentence.due("none", x.first(0, 0), -9);
        Sentence.due("whose, none", x.first(0, 1), -9);
        for (int policy : OTHER_POLICIES) {
            for (int what : new int[] {-1, 0, 1, 2}) Sentence.due("by " + policy, x.first(policy, what), -2);
        }
        for (int what : new int[] {Sentence.LOW, -1, 2, Sentence.HIGH}) {
            Sentence.due("what " + what, x.first(3, what), -2);
        }
    }

    private static void firstOfSeveral() {
        Sentence.says(28, "its TASK (of several the least, 1)");
        DutiesProved x = Sentence.made(Sentence.times(6, Sentence.task(20, 60, 10)));
        for (int policy = 0; policy <= 3; policy++) Sentence.due("of six", x.first(policy, 1), 0);
        x.rank(5, 9);
        x.offset(5, 1);
        Sentence.due("when", x.first(2, 0), 10);
        Sentence.due("not the one worked at", x.first(2, 1), 0);
        for (int task = 0; task < 5; task++) x.kind(task, 5, task);
        Sentence.due("when the 5th is DUE", x.first(0, 0), 6);
        Sentence.due("the 5th", x.first(0, 1), 4);
        x.turns(4);
        Sentence.due("when the 4th is DUE", x.first(0, 0), 7);
        Sentence.due("the 4th", x.first(0, 1), 3);
    }

    private static void jobsOutside() {
        Sentence.says(27, "-2 POLICY; -1; -2 what.");
        DutiesProved x = Sentence.of("t1,2,1;");
        for (int policy : OTHER_POLICIES) {
            for (int task : new int[] {0, 1}) Sentence.due("by " + policy, x.jobs(policy, task, 2), -2);
        }
        for (int task : new int[] {Sentence.LOW, -1, 1, 6, Sentence.HIGH}) {
            for (int what : new int[] {-1, 0, 2}) Sentence.due("of " + task, x.jobs(3, task, what), -1);
        }
        for (int what : new int[] {Sentence.LOW, -1, 2, Sentence.HIGH}) {
            Sentence.due("what " + what, x.jobs(0, 0, what), -2);
        }
        Sentence.due("counted as -2", x.count(12), 12);
        Sentence.due("counted as -1", x.count(11), 15);
    }
}
