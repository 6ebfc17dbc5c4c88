/** Promises 1, 4 to 11, 39 to 41: TASKS, what they are, THE IMAGE and what is counted. */
final class TaskEdges {
    private static final int[] FAR = {Sentence.LOW, -1, 6, 99, Sentence.HIGH};

    private TaskEdges() {
    }

    static void all() {
        noTasks();
        noTasksInOrders();
        noTasksInMore();
        leastAndGreatestTasks();
        aTaskMoreTooMany();
        belowGoesFirst();
        onAtFirst();
        turnsOften();
        offsets();
        ranks();
        costs();
        kinds();
        locks();
        traits();
        distances();
        lates();
        limits();
        imageOfNone();
        imageOfSix();
        notOfTheImage();
        counts();
        countsOfOther();
    }

    private static void noTasks() {
        Sentence.says(1, "No TASKS.");
        DutiesProved x = new DutiesProved();
        for (int t : new int[] {0, 1, 600}) Sentence.due("demand(" + t + ")", x.demand(t), 0);
        Sentence.due("busy", x.busy(), 0);
        Sentence.due("points", x.point(-1), 0);
        Sentence.due("point(0)", x.point(0), -9);
        Sentence.due("miss", x.miss(), -9);
        Sentence.due("spare", x.spare(), 1000);
        Sentence.due("load above", x.load(0), 0);
        Sentence.due("load below", x.load(1), 1);
        Sentence.due("anew", x.anew(), 1);
        Sentence.due("missing above", x.missing(20, 0), 1);
        Sentence.due("missing below", x.missing(20, 1), 1);
        for (int task : new int[] {-1, 0, 1, 5, 6}) {
            Sentence.due("turns(" + task + ")", x.turns(task), -1);
            Sentence.due("task(" + task + ", 0)", x.task(task, 0), -1);
            Sentence.due("whatIs(" + task + ", 0)", x.whatIs(task, 0), -1);
        }
    }

    private static void noTasksInOrders() {
        Sentence.says(1, "No TASKS.");
        DutiesProved x = new DutiesProved();
        for (int policy = 0; policy < 3; policy++) {
            Sentence.due("order", x.order(policy, 0), -9);
            Sentence.due("fits", x.fits(policy), 0);
            for (int lock = 0; lock < 4; lock++) Sentence.due("ceiling", x.ceiling(policy, lock), -9);
        }
        Sentence.due("lawful", x.lawful(0), -9);
        for (int policy = 0; policy < 4; policy++) {
            for (int unit = 0; unit < 60; unit++) Sentence.due("run at " + unit, x.run(policy, unit), -9);
            Sentence.due("first when", x.first(policy, 0), -9);
            Sentence.due("first whose", x.first(policy, 1), -9);
        }
    }

    private static void noTasksInMore() {
        Sentence.says(1, "No TASKS.");
        DutiesProved x = new DutiesProved();
        Sentence.due("lots without a MISS", x.lots(20, -1, 0), 20);
        Sentence.due("lots that FIT", x.lots(20, -1, 1), 20);
        Sentence.due("judge", x.judge(0), -9);
        Sentence.due("clear", x.clear(), 0);
        Sentence.due("tells", x.tells(), -1000);
        Sentence.due("on", x.on(), -3);
        Sentence.due("image", x.image(), 0);
        for (int what = 0; what <= 4; what++) Sentence.due("count(" + what + ")", x.count(what), 0);
    }

    private static void leastAndGreatestTasks() {
        Sentence.says(4, "A TASK more: its number. -4 (1, 2, 1); -6 (20, 60, 60; a TASK more, too).");
        int[] least = {1, 2, 1};
        int[] most = {20, 60, 60};
        for (int i = 0; i < 3; i++) {
            DutiesProved x = new DutiesProved();
            int number = 0;
            for (int v : new int[] {Sentence.LOW, 0, least[i] - 1, least[i], most[i], most[i] + 1, Sentence.HIGH}) {
                int[] f = {7, 7, 7};
                f[i] = v;
                int due = v < least[i] ? -4 : v > most[i] ? -6 : number++;
                Sentence.due("number " + i + " is " + v, x.tasks(f[0], f[1], f[2]), due);
                if (due >= 0) Sentence.due("it is kept", x.task(due, i), v);
            }
            Sentence.due("two came", x.count(0), 2);
        }
        DutiesProved y = new DutiesProved();
        Sentence.due("all least", y.tasks(1, 2, 1), 0);
        Sentence.due("all greatest", y.tasks(20, 60, 60), 1);
    }

    private static void aTaskMoreTooMany() {
        Sentence.says(4, "TASKS 0 .. as they come (6 at most)");
        DutiesProved x = new DutiesProved();
        for (int i = 0; i < 6; i++) Sentence.due("task " + i, x.tasks(1 + i, 2 + i, 3 + i), i);
        Sentence.due("a 7th", x.tasks(1, 2, 1), -6);
        Sentence.due("a 7th that is below", x.tasks(0, 61, 61), -4);
        Sentence.due("one not ON", x.turns(5), 0);
        Sentence.due("it takes room, too", x.tasks(1, 2, 1), -6);
        Sentence.due("six", x.count(0), 6);
        for (int i = 0; i < 6; i++) {
            for (int what = 0; what < 3; what++) Sentence.due("as it came", x.task(i, what), 1 + i + what);
        }
    }

    private static void belowGoesFirst() {
        Sentence.says(4, "the first that fits in the order in which it tells them");
        DutiesProved x = new DutiesProved();
        int[][] both = {{21, 1, 1}, {21, 2, 0}, {0, 61, 1}, {1, 61, 0}, {0, 2, 61}, {1, 1, 61}};
        for (int[] f : both) Sentence.due("below and above", x.tasks(f[0], f[1], f[2]), -4);
        Sentence.due("below", x.count(14), 6);
        Sentence.due("above", x.count(16), 0);
    }

    private static void onAtFirst() {
        Sentence.says(4, "an OFFSET (0 .. 59; 0 at first), a RANK (0 .. 9; 0 at first), of a KIND with a FIGURE");
        DutiesProved x = Sentence.of("t1,2,1;o0=9;r0=9;k0=5,9;h0,0=9;");
        for (int task = 1; task < 6; task++) {
            Sentence.due("its number", x.tasks(20, 60, 60), task);
            for (int what = 3; what <= 6; what++) Sentence.due("task(.., " + what + ")", x.task(task, what), 0);
            Sentence.due("ON", x.task(task, 7), 1);
            for (int lock = 0; lock < 4; lock++) Sentence.due("HOLDS", x.holds(task, lock, 0), 0);
        }
    }

    private static void turnsOften() {
        Sentence.says(5, "It is ON, or not: 1 ON, 0. -1.");
        DutiesProved x = Sentence.made(Sentence.times(6, Sentence.task(1, 2, 1)));
        int bits = 63;
        for (int task : new int[] {0, 5, 3, 3, 5, 0, 0, 1, 2, 3, 4, 5}) {
            bits ^= 1 << task;
            Sentence.due("turns(" + task + ")", x.turns(task), bits >> task & 1);
            Sentence.due("ON", x.count(1), bits);
        }
        Sentence.due("none is ON", x.count(1), 0);
        for (int task : FAR) Sentence.due("turns(" + task + ")", x.turns(task), -1);
        Sentence.due("none is ON yet", x.count(1), 0);
        Sentence.due("one of one", Sentence.of("t1,2,1;").turns(1), -1);
    }

    private interface Setter {
        int set(DutiesProved x, int task, int value);
    }

    private static void setAtEdges(Setter setter, int trait, int least, int most, int atFirst) {
        DutiesProved x = Sentence.made(Sentence.times(6, Sentence.task(5, 10, 10)));
        for (int task : new int[] {0, 5}) {
            int old = atFirst;
            for (int v : new int[] {most, Sentence.LOW, least - 1, least, most + 1, Sentence.HIGH, most, least}) {
                int due = v < least ? -4 : v > most ? -6 : old;
                Sentence.due("of " + task + ", " + v, setter.set(x, task, v), due);
                if (v >= least && v <= most) old = v;
                Sentence.due("of " + task + ", kept", x.task(task, trait), old);
            }
        }
        for (int task = 1; task < 5; task++) Sentence.due("another one's", x.task(task, trait), atFirst);
        for (int task : FAR) {
            for (int v : new int[] {least - 1, least, most + 1}) {
                Sentence.due("of nobody " + task, setter.set(x, task, v), -1);
            }
        }
    }

    private static void offsets() {
        Sentence.says(6, "OFFSET: the old. -1; -4; -6 59.");
        setAtEdges((x, task, v) -> x.offset(task, v), 3, 0, 59, 0);
    }

    private static void ranks() {
        Sentence.says(7, "RANK: the old. -1; -4; -6 9.");
        setAtEdges((x, task, v) -> x.rank(task, v), 4, 0, 9, 0);
    }

    private static void costs() {
        Sentence.says(8, "COST: the old. -1; -4 1; -6 20.");
        setAtEdges((x, task, v) -> x.cost(task, v), 0, 1, 20, 5);
    }

    private static void kinds() {
        Sentence.says(9, "10 times the KIND and the FIGURE that were. -1; -2; -4; -6 9.");
        DutiesProved x = Sentence.made(Sentence.times(6, Sentence.task(5, 10, 10)));
        for (int task : new int[] {0, 5}) {
            int old = 0;
            for (int kind : new int[] {0, 5, -1, 6, Sentence.LOW, Sentence.HIGH, 4, 1}) {
                for (int figure : new int[] {9, 0, -1, 10, Sentence.LOW, Sentence.HIGH}) {
                    int due = kind < 0 || kind > 5 ? -2 : figure < 0 ? -4 : figure > 9 ? -6 : old;
                    Sentence.due("kind(" + kind + ", " + figure + ")", x.kind(task, kind, figure), due);
                    if (due == old) old = 10 * kind + figure;
                    Sentence.due("KIND", x.task(task, 5), old / 10);
                    Sentence.due("FIGURE", x.task(task, 6), old % 10);
                }
            }
        }
        for (int task : FAR) Sentence.due("of nobody " + task, x.kind(task, 6, -1), -1);
        Sentence.due("another one's", x.kind(2, 0, 0), 0);
    }

    private static void locks() {
        Sentence.says(10, "For how long it HOLDS the LOCK: the old. -1 either; -4; -6 9.");
        DutiesProved x = Sentence.made(Sentence.times(6, Sentence.task(5, 10, 10)));
        for (int task = 0; task < 6; task++) {
            for (int lock = 0; lock < 4; lock++) {
                Sentence.due("0 at first", x.holds(task, lock, (task + 3 * lock) % 10), 0);
            }
        }
        for (int task = 0; task < 6; task++) {
            for (int lock = 0; lock < 4; lock++) {
                Sentence.due("-1", x.holds(task, lock, -1), -4);
                Sentence.due("10", x.holds(task, lock, 10), -6);
                Sentence.due("each its own", x.holds(task, lock, 9), (task + 3 * lock) % 10);
                Sentence.due("9", x.holds(task, lock, 0), 9);
            }
        }
        for (int far : new int[] {Sentence.LOW, -1, 4, Sentence.HIGH}) {
            for (int v : new int[] {-1, 0, 9, 10}) Sentence.due("LOCK " + far, x.holds(0, far, v), -1);
        }
        for (int far : FAR) Sentence.due("of nobody " + far, x.holds(far, 0, -1), -1);
        Sentence.due("neither", x.holds(6, 4, 10), -1);
        for (int lock = 0; lock < 4; lock++) Sentence.due("none stays", x.holds(5, lock, 0), 0);
    }

    private static void traits() {
        Sentence.says(11, "7 1 ON, 0, 8 DISTANCE, 9 LATE, 10 LIMIT. -1; -2.");
        DutiesProved x = Sentence.of("t20,60,60;t1,2,1;o0=59;r0=9;k0=5,9;x1;");
        int[][] all = {{20, 60, 60, 59, 9, 5, 9, 1, 60, 0, 51}, {1, 2, 1, 0, 0, 0, 0, 0, 2, 0, 1}};
        for (int task = 0; task < 2; task++) {
            for (int what = 0; what <= 10; what++) {
                Sentence.due("task(" + task + ", " + what + ")", x.task(task, what), all[task][what]);
            }
            for (int what : new int[] {Sentence.LOW, -1, 11, Sentence.HIGH}) {
                Sentence.due("task(" + task + ", " + what + ")", x.task(task, what), -2);
            }
        }
        for (int task : new int[] {-1, 2, 6}) Sentence.due("of nobody", x.task(task, 11), -1);
    }

    private static void distances() {
        Sentence.says(11, "DISTANCE: PERIOD; of SPORADIC and BURSTY ones FIGURE more.");
        for (int kind = 0; kind <= 5; kind++) {
            boolean more = kind == 2 || kind == 3;
            for (int figure : new int[] {0, 1, 9}) {
                for (int period : new int[] {2, 60}) {
                    DutiesProved x = Sentence.made(Sentence.task(1, period, 1, kind, figure));
                    Sentence.due("of KIND " + kind, x.task(0, 8), period + (more ? figure : 0));
                    Sentence.due("the PERIOD stays", x.task(0, 1), period);
                }
            }
        }
    }

    private static void lates() {
        Sentence.says(11, "LATE: 0; of JITTERY and SERVED ones FIGURE.");
        for (int kind = 0; kind <= 5; kind++) {
            boolean late = kind == 1 || kind == 4;
            for (int figure : new int[] {0, 1, 9}) {
                DutiesProved x = Sentence.made(Sentence.task(1, 2, 1, kind, figure));
                Sentence.due("of KIND " + kind, x.task(0, 9), late ? figure : 0);
            }
        }
    }

    private static void limits() {
        Sentence.says(11, "LIMIT: DEADLINE; of URGENT ones FIGURE less, but 1 at least.");
        int[][] urgent = {
            // DEADLINE, FIGURE, LIMIT
            {60, 0, 60}, {60, 9, 51}, {11, 9, 2}, {10, 9, 1}, {9, 9, 1}, {8, 9, 1}, {1, 9, 1}, {1, 1, 1}, {1, 0, 1},
            {2, 1, 1}, {2, 2, 1}, {3, 1, 2}};
        for (int[] u : urgent) {
            for (int kind = 0; kind <= 5; kind++) {
                DutiesProved x = Sentence.made(Sentence.task(1, 2, u[0], kind, u[1]));
                Sentence.due("of KIND " + kind, x.task(0, 10), kind == 5 ? u[2] : u[0]);
                Sentence.due("the DEADLINE stays", x.task(0, 2), u[0]);
            }
        }
    }

    private static void imageOfNone() {
        Sentence.says(40, "ON from it: how many TASKS. -3 there is none.");
        DutiesProved x = Sentence.of("t1,2,1;");
        Sentence.due("none was taken", x.on(), -3);
        Sentence.due("the TASK stays", x.count(0), 1);
        DutiesProved y = new DutiesProved();
        Sentence.due("image of none", y.image(), 0);
        Sentence.due("a TASK", y.tasks(20, 60, 60), 0);
        Sentence.due("on from none", y.on(), 0);
        Sentence.due("no TASK", y.count(0), 0);
        Sentence.due("nobody", y.turns(0), -1);
        Sentence.due("the first again", y.tasks(1, 2, 1), 0);
        Sentence.due("its COST", y.task(0, 0), 1);
    }

    private static void imageOfSix() {
        Sentence.says(39, "THE IMAGE is taken: how many TASKS.");
        DutiesProved x = Sentence.made(Sentence.times(6, Sentence.task(20, 60, 60, 5, 9)));
        DutiesProved same = Sentence.made(Sentence.times(6, Sentence.task(20, 60, 60, 5, 9)));
        for (int task = 0; task < 6; task++) x.holds(task, 3, 9);
        for (int task = 0; task < 6; task++) same.holds(task, 3, 9);
        Sentence.due("image of six", x.image(), 6);
        same.image();
        for (int task = 0; task < 6; task++) {
            x.cost(task, 1);
            x.offset(task, 1);
            x.rank(task, 1);
            x.kind(task, 1, 1);
            x.holds(task, 0, 1);
            x.turns(task);
        }
        Sentence.due("none is ON", x.count(1), 0);
        Sentence.due("on from six", x.on(), 6);
        Sentence.due("no room", x.tasks(1, 2, 1), -6);
        Twins.same("as then", same, x, -6);
    }

    private static void notOfTheImage() {
        Sentence.says(40, "all that there is, but it, the ROW, letters, REFUSALS; ON from it all is as then.");
        DutiesProved x = new DutiesProved();
        x.row(1);
        x.letter('x');
        x.on();
        Sentence.due("image", x.image(), 0);
        for (int i = 0; i < 7; i++) x.row(1);
        Sentence.tell(x, "0;t1,2,1;");
        x.turns(0);
        x.load(2);
        Sentence.due("on", x.on(), 0);
        Sentence.due("the ROW stays", x.count(3), 8);
        Sentence.due("letters stay", x.count(4), 10);
        Sentence.due("REFUSALS -1 stay", x.count(11), 1);
        Sentence.due("REFUSALS -2 stay", x.count(12), 1);
        Sentence.due("REFUSALS -3 stay", x.count(13), 1);
        Sentence.due("it stays itself", x.on(), 0);
        x.tasks(1, 2, 1);
        Sentence.due("a later one", x.image(), 1);
        x.tasks(1, 2, 1);
        Sentence.due("on from the later one", x.on(), 1);
        Sentence.due("told then", x.tells(), 2);
        Sentence.due("on once more", x.on(), 1);
        Sentence.due("the TASK is ON", x.count(1), 1);
    }

    private static void counts() {
        Sentence.says(41, "0 TASKS, 1 those that are ON (bits), 2 COSTS of all together, 3 in the ROW, 4 letters");
        DutiesProved x = new DutiesProved();
        for (int i = 0; i < 6; i++) {
            Sentence.due("TASKS", x.count(0), i);
            Sentence.due("ON", x.count(1), (1 << i) - 1);
            Sentence.due("COSTS", x.count(2), 20 * i);
            x.tasks(20, 60, 60);
        }
        Sentence.due("TASKS at most", x.count(0), 6);
        Sentence.due("ON at most", x.count(1), 63);
        Sentence.due("COSTS at most", x.count(2), 120);
        x.turns(0);
        x.turns(5);
        Sentence.due("TASKS that are not ON, too", x.count(0), 6);
        Sentence.due("ON without two", x.count(1), 30);
        Sentence.due("\"all\" are these that are ON", x.count(2), 80);
        for (int i = 1; i <= 8; i++) x.row(0);
        for (int i = 1; i <= 96; i++) x.letter(0);
        Sentence.due("the ROW at most", x.count(3), 8);
        Sentence.due("letters at most", x.count(4), 96);
    }

    private static void countsOfOther() {
        Sentence.says(41, "11 .. 16 REFUSALS -1 .. -6. -9 for another what.");
        DutiesProved x = new DutiesProved();
        for (int what : new int[] {Sentence.LOW, -9, -1, 5, 6, 7, 8, 9, 10, 17, 18, Sentence.HIGH}) {
            Sentence.due("count(" + what + ")", x.count(what), -9);
        }
        for (int what = 11; what <= 16; what++) Sentence.due("that is no REFUSAL", x.count(what), 0);
        for (int i = 0; i < 101; i++) x.turns(0);
        for (int i = 0; i < 102; i++) x.load(2);
        for (int i = 0; i < 40; i++) x.on();
        for (int i = 0; i < 104; i++) x.missing(1, 0);
        for (int i = 0; i < 106; i++) x.letter(256);
        int[] many = {101, 102, 40, 104, 0, 106};
        for (int i = 0; i < 6; i++) Sentence.due("count(" + (11 + i) + ")", x.count(11 + i), many[i]);
    }
}
