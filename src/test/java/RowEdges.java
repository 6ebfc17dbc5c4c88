import java.math.BigInteger;

/** Promises 34 to 38: the ROW, WHAT KIND by it, RESPONSES JUDGED, and LOTS. */
final class RowEdges {
    private static final BigInteger INTS = BigInteger.ONE.shiftLeft(32);
    private static final int[] SEEDS = {0, 1, -1, Sentence.LOW, Sentence.HIGH, 1013904223, -1013904223, 255, 256};

    private RowEdges() {
    }

    static void all() {
        kindsOfAnEmptyRow();
        kindsByOnePoint();
        figuresByOnePoint();
        kindsAsAllIsNow();
        rowsOfEight();
        rowsTooLong();
        rowsOfFarNumbers();
        whatIsOfOneNotOn();
        whatIsOutside();
        numbersOfTheRow();
        clears();
        judgedOfNone();
        judgedLacksOrTooMuch();
        judgedZeros();
        judgedAtLargest();
        judgedByOtherPolicies();
        lotsOutside();
        lotsByLargeSeeds();
        lotsGoOn();
        lotsOfAllOrNone();
    }

    private static void tellRow(DutiesProved x, int... row) {
        x.clear();
        for (int i = 0; i < row.length; i++) Sentence.due("row(" + row[i] + ")", x.row(row[i]), i + 1);
    }

    private static void kindsOfAnEmptyRow() {
        Sentence.says(34, "they begin so (all of the ROW; of none all is so)");
        DutiesProved x = Sentence.of("t20,60,20;t1,60,60;k0=5,9;x1;");
        for (int task = 0; task < 2; task++) {
            Sentence.due("KINDS", x.whatIs(task, 0), 63);
            Sentence.due("FIGURES", x.whatIs(task, 1), 1023);
        }
        x.turns(0);
        Sentence.due("no POINTS: KINDS", x.whatIs(0, 0), 63);
        Sentence.due("no POINTS: FIGURES", x.whatIs(0, 1), 1023);
        x.row(20);
        x.clear();
        Sentence.due("none any more", x.whatIs(0, 0), 63);
    }

    private static void kindsByOnePoint() {
        Sentence.says(34, "KINDS (bits) by which, FIGURE as it is");
        // by FIGURE 9 the first POINT is 11 of KINDS 1, 4, 5, else 20; by FIGURE 0 20 of all
        DutiesProved x = Sentence.of("t20,60,20;k0=0,9;");
        int[][] due = {{20, 63, 1 + 4 + 8}, {11, 0, 2 + 16 + 32}, {10, 0, 0}, {12, 0, 0}, {19, 0, 0}, {21, 0, 0}};
        for (int[] d : due) {
            tellRow(x, d[0]);
            for (int kind = 0; kind <= 5; kind++) {
                x.kind(0, kind, 0);
                Sentence.due("FIGURE 0 by " + d[0], x.whatIs(0, 0), d[1]);
                x.kind(0, kind, 9);
                Sentence.due("FIGURE 9 by " + d[0], x.whatIs(0, 0), d[2]);
                Sentence.due("it stays of its KIND", x.kind(0, kind, 9), 10 * kind + 9);
            }
            Sentence.due("the ROW stays", x.count(3), 1);
        }
    }

    private static void figuresByOnePoint() {
        Sentence.says(34, "FIGURES (bits 0 .. 9) by which, KIND as it is.");
        DutiesProved x = Sentence.of("t20,60,20;");
        for (int kind = 0; kind <= 5; kind++) {
            boolean steps = kind == 1 || kind == 4 || kind == 5;
            for (int figure : new int[] {0, 9}) {
                x.kind(0, kind, figure);
                for (int point : new int[] {10, 11, 12, 20, 21}) {
                    tellRow(x, point);
                    int due = steps ? point > 10 && point < 21 ? 1 << 20 - point : 0 : point == 20 ? 1023 : 0;
                    Sentence.due("KIND " + kind + " by " + point, x.whatIs(0, 1), due);
                    Sentence.due("it stays of its FIGURE", x.task(0, 6), figure);
                }
            }
        }
    }

    private static void kindsAsAllIsNow() {
        Sentence.says(34, "KINDS (bits) by which, FIGURE as it is, they begin so");
        DutiesProved x = Sentence.made(Sentence.task(20, 60, 20));
        tellRow(x, 20);
        Sentence.due("one made", x.whatIs(0, 0), 63);
        x.cost(0, 19);
        Sentence.due("of less COST BURSTY alone", x.whatIs(0, 0), 8);
        x.cost(0, 20);
        x.tasks(20, 60, 19);
        Sentence.due("another one's POINT ahead", x.whatIs(0, 0), 0);
        x.turns(1);
        Sentence.due("it isn't ON", x.whatIs(0, 0), 63);
        x.image();
        x.turns(0);
        Sentence.due("none is ON", x.whatIs(0, 0), 0);
        x.on();
        Sentence.due("ON again by the IMAGE", x.whatIs(0, 0), 63);
    }

    private static void rowsOfEight() {
        Sentence.says(34, "a ROW tells POINTS from the first on");
        // 5, 7, 9 .. 19, and on: without an end
        DutiesProved x = Sentence.of("t20,2,5;");
        tellRow(x, 5, 7, 9, 11, 13, 15, 17, 19);
        // but of KIND 4, of which by FIGURE 0 there is one alone
        Sentence.due("all eight", x.whatIs(0, 0), 63 - 16);
        Sentence.due("all eight: FIGURES", x.whatIs(0, 1), 1023);
        for (int wrong = 0; wrong < 8; wrong++) {
            int[] row = {5, 7, 9, 11, 13, 15, 17, 19};
            row[wrong]++;
            tellRow(x, row);
            Sentence.due("but one", x.whatIs(0, 1), 0);
        }
        tellRow(x, 7, 9);
        Sentence.due("not from the first", x.whatIs(0, 1), 0);
        tellRow(x, 5, 9);
        Sentence.due("one is left out", x.whatIs(0, 1), 0);
        tellRow(x, 5, 5);
        Sentence.due("one twice", x.whatIs(0, 1), 0);
        tellRow(x, 7, 5);
        Sentence.due("turned round", x.whatIs(0, 1), 0);
    }

    private static void rowsTooLong() {
        Sentence.says(34, "(all of the ROW; of none all is so)");
        // one POINT, at BUSY, but of BURSTY ones BUSY is 40
        DutiesProved x = Sentence.of("t20,60,20;");
        tellRow(x, 20);
        Sentence.due("as many as POINTS", x.whatIs(0, 0), 63);
        tellRow(x, 20, 80);
        Sentence.due("one more than POINTS", x.whatIs(0, 0), 0);
        DutiesProved none = Sentence.of("t19,60,20;k0=0,1;");
        tellRow(none, 19);
        // with LATE or URGENT at 19; of BURSTY ones at 20
        Sentence.due("by 19", none.whatIs(0, 0), 2 + 16 + 32);
        tellRow(none, 20);
        Sentence.due("by 20", none.whatIs(0, 0), 8);
    }

    private static void rowsOfFarNumbers() {
        Sentence.says(35, "A ROW of numbers (0 .. 99; 8 at most)");
        DutiesProved x = Sentence.made(Sentence.times(6, Sentence.task(20, 60, 39)));
        tellRow(x, 39, 99);
        Sentence.due("99", x.whatIs(5, 1), 1023);
        tellRow(x, 39, 98);
        Sentence.due("98", x.whatIs(5, 1), 0);
        tellRow(x, 0);
        Sentence.due("0 is no POINT", x.whatIs(5, 0), 0);
        tellRow(x, 0, 39);
        Sentence.due("0 isn't left out", x.whatIs(5, 0), 0);
        DutiesProved one = Sentence.of("t1,60,10;k0=1,9;");
        tellRow(one, 1);
        Sentence.due("1 is the first that can be", one.whatIs(0, 0), 2 + 16 + 32);
    }

    private static void whatIsOfOneNotOn() {
        Sentence.says(34, "Only TASKS that are ON count");
        DutiesProved x = Sentence.of("t20,60,20;t20,60,11;x1;");
        tellRow(x, 20);
        Sentence.due("KINDS of one not ON", x.whatIs(1, 0), 63);
        Sentence.due("FIGURES of one not ON", x.whatIs(1, 1), 1023);
        tellRow(x, 11);
        Sentence.due("no KIND of it helps", x.whatIs(1, 0), 0);
        Sentence.due("no FIGURE of it helps", x.whatIs(1, 1), 0);
    }

    private static void whatIsOutside() {
        Sentence.says(34, "KINDS (what 0, bits), FIGURES (1). -1; -2.");
        DutiesProved x = Sentence.of("t20,60,20;");
        for (int task : new int[] {Sentence.LOW, -1, 1, 6, Sentence.HIGH}) {
            for (int what : new int[] {-1, 0, 1, 2}) Sentence.due("of nobody", x.whatIs(task, what), -1);
        }
        for (int what : new int[] {Sentence.LOW, -1, 2, Sentence.HIGH}) {
            Sentence.due("what " + what, x.whatIs(0, what), -2);
        }
    }

    private static void numbersOfTheRow() {
        Sentence.says(35, "A number more of the ROW (0 .. 99): how many. -4; -6 (99; 8, too).");
        DutiesProved x = new DutiesProved();
        int many = 0;
        for (int v : new int[] {Sentence.LOW, -1, 0, 99, 100, Sentence.HIGH, 50}) {
            int due = v < 0 ? -4 : v > 99 ? -6 : ++many;
            Sentence.due("row(" + v + ")", x.row(v), due);
            Sentence.due("so many", x.count(3), many);
        }
        while (many < 8) Sentence.due("one more", x.row(0), ++many);
        Sentence.due("a 9th", x.row(0), -6);
        Sentence.due("a 9th that is below", x.row(-1), -4);
        Sentence.due("a 9th that is above", x.row(100), -6);
        Sentence.due("eight", x.count(3), 8);
    }

    private static void clears() {
        Sentence.says(37, "The ROW has none then: how many it had.");
        DutiesProved x = new DutiesProved();
        Sentence.due("none", x.clear(), 0);
        for (int many = 1; many <= 8; many++) {
            for (int i = 1; i <= many; i++) Sentence.due("row", x.row(9), i);
            Sentence.due("so many", x.clear(), many);
            Sentence.due("none then", x.count(3), 0);
            Sentence.due("none then, told", x.clear(), 0);
        }
        Sentence.due("room again", x.row(99), 1);
    }

    private static void dueJudged(DutiesProved x, int policy, int due, int... row) {
        tellRow(x, row);
        Sentence.due("judge(" + policy + ") of " + row.length, x.judge(policy), due);
        Sentence.due("the ROW has none then", x.count(3), 0);
    }

    private static void judgedOfNone() {
        Sentence.says(36, "JUDGED; -9 (whichever it answers, the ROW has none then).");
        DutiesProved x = new DutiesProved();
        for (int policy = 0; policy < 3; policy++) {
            dueJudged(x, policy, -9);
            dueJudged(x, policy, 0, 0);
            dueJudged(x, policy, 0, 99);
            dueJudged(x, policy, 0, 0, 0, 0, 0, 0, 0, 0, 0);
        }
    }

    private static void judgedLacksOrTooMuch() {
        Sentence.says(36, "or lacks (the ROW ends ahead of it), or is too much (there is no such TASK); -9.");
        DutiesProved x = Sentence.made(Sentence.times(6, Sentence.task(10, 60, 60)));
        dueJudged(x, 0, -9, 10, 20, 30, 40, 50, 60);
        dueJudged(x, 0, 6, 10, 20, 30, 40, 50, 60, 70);
        dueJudged(x, 0, 6, 10, 20, 30, 40, 50, 60, 0);
        dueJudged(x, 0, 6, 10, 20, 30, 40, 50, 60, 70, 80);
        dueJudged(x, 0, 5, 10, 20, 30, 40, 50);
        dueJudged(x, 0, 1, 10);
        dueJudged(x, 0, 0);
        dueJudged(x, 0, 5, 10, 20, 30, 40, 50, 59);
        dueJudged(x, 0, 0, 11, 20, 30, 40, 50, 60);
        dueJudged(x, 0, 0, 9, 20, 31, 40, 50, 60, 70);
        dueJudged(x, 0, 2, 10, 20, 31, 40, 50, 60, 70);
        dueJudged(x, 0, 1, 10, 0);
    }

    private static void judgedZeros() {
        Sentence.says(36, "(0 of those that aren't ON or have none): the first that is not so");
        DutiesProved x = Sentence.of("t2,2,2;t1,60,60;t1,60,60;x2;");
        dueJudged(x, 0, -9, 2, 0, 0);
        dueJudged(x, 0, 1, 2, 1, 0);
        dueJudged(x, 0, 2, 2, 0, 1);
        dueJudged(x, 0, 2, 2, 0);
        for (int task = 0; task < 2; task++) x.turns(task);
        dueJudged(x, 0, -9, 0, 0, 0);
        dueJudged(x, 0, 0);
        dueJudged(x, 0, 3, 0, 0, 0, 0);
    }

    private static void judgedAtLargest() {
        Sentence.says(36, "A ROW of numbers (0 .. 99; 8 at most) JUDGED: RESPONSES by a POLICY 0 .. 2 of TASKS 0, 1, ..");
        int[] once = {20, 60, 60, 4, 0};
        DutiesProved x = Sentence.made(once, once, once, once, Sentence.task(19, 60, 60, 4, 0));
        dueJudged(x, 2, -9, 20, 40, 60, 80, 99);
        x.cost(4, 20);
        dueJudged(x, 2, 4, 20, 40, 60, 80, 99);
        dueJudged(x, 2, 4, 20, 40, 60, 80, 0);
    }

    private static void judgedByOtherPolicies() {
        Sentence.says(36, "-2 (3, too; the ROW stays).");
        DutiesProved x = Sentence.of("t1,60,60;t2,59,60;t4,58,50;r0=1;r1=9;");
        tellRow(x, 7, 6, 4);
        for (int policy : new int[] {Sentence.LOW, -1, 3, 4, Sentence.HIGH}) {
            Sentence.due("judge(" + policy + ")", x.judge(policy), -2);
            Sentence.due("the ROW stays", x.count(3), 3);
        }
        Sentence.due("by RATE", x.judge(0), -9);
        dueJudged(x, 1, -9, 5, 7, 4);
        dueJudged(x, 2, -9, 3, 2, 7);
        dueJudged(x, 1, 0, 3, 2, 7);
    }

    private static void lotsOutside() {
        Sentence.says(38, "LOTS: without a MISS (what 0), all FIT (1). -4 1; -6 20; -2.");
        DutiesProved x = Sentence.of("t20,60,60;");
        for (int what : new int[] {-1, 0, 1, 2}) {
            Sentence.due("n LOW", x.lots(Sentence.LOW, 1, what), -4);
            Sentence.due("n -1", x.lots(-1, 1, what), -4);
            Sentence.due("n 0", x.lots(0, 1, what), -4);
            Sentence.due("n 21", x.lots(21, 1, what), -6);
            Sentence.due("n HIGH", x.lots(Sentence.HIGH, 1, what), -6);
        }
        for (int what : new int[] {Sentence.LOW, -1, 2, Sentence.HIGH}) {
            Sentence.due("what " + what, x.lots(1, 1, what), -2);
            Sentence.due("what " + what, x.lots(20, 1, what), -2);
        }
        for (int what = 0; what <= 1; what++) {
            Sentence.due("one", x.lots(1, 1, what), 1);
            Sentence.due("twenty", x.lots(20, 1, what), 20);
        }
        Sentence.due("the COST stays", x.task(0, 0), 20);
    }

    /** A DRAW as the words tell it, in numbers without a bound: z behind it. */
    private static int drawn(int z) {
        return BigInteger.valueOf(z).multiply(BigInteger.valueOf(1664525)).add(BigInteger.valueOf(1013904223))
                .mod(INTS).intValue();
    }

    private static int costDrawn(int z) {
        BigInteger withoutSign = BigInteger.valueOf(z).mod(INTS.shiftRight(1));
        return 1 + withoutSign.divide(BigInteger.valueOf(256)).mod(BigInteger.valueOf(9)).intValue();
    }

    private static void lotsByLargeSeeds() {
        Sentence.says(38, "z becomes z times 1664525 and 1013904223 (an int); (z without its sign's bit by 256, cut)");
        for (int z : SEEDS) {
            int cost = costDrawn(drawn(z));
            for (int deadline = 1; deadline <= 10; deadline++) {
                DutiesProved x = new DutiesProved();
                x.tasks(1, 60, deadline);
                for (int what = 0; what <= 1; what++) {
                    Sentence.due("COST " + cost + " by " + z + ", LIMIT " + deadline,
                            x.lots(1, z, what), cost <= deadline ? 1 : 0);
                }
            }
        }
    }

    private static void lotsGoOn() {
        Sentence.says(38, "COST of each TASK anew, by numbers, 1 more than a DRAW below 9");
        for (int first : SEEDS) {
            for (int tasks = 1; tasks <= 6; tasks++) {
                int deadline = 4 * tasks;
                DutiesProved x = Sentence.made(Sentence.times(tasks, Sentence.task(20, 60, deadline)));
                int z = first;
                int good = 0;
                for (int n = 1; n <= 20; n++) {
                    int together = 0;
                    for (int i = 0; i < tasks; i++) {
                        z = drawn(z);
                        together += costDrawn(z);
                    }
                    if (together <= deadline) good++;
                    for (int what = 0; what <= 1; what++) {
                        Sentence.due(tasks + " TASKS, " + n + " times by " + first, x.lots(n, first, what), good);
                    }
                }
            }
        }
    }

    private static void lotsOfAllOrNone() {
        Sentence.says(38, "how many have no MISS; how many times all FIT by POLICY 1");
        DutiesProved none = Sentence.of("t20,2,1;x0;");
        Sentence.due("none is ON, no MISS", none.lots(20, 1, 0), 20);
        Sentence.due("none is ON, all FIT", none.lots(20, 1, 1), 20);
        DutiesProved never = Sentence.of("t1,60,1;k0=3,0;");
        Sentence.due("two at 1, a MISS", never.lots(20, 1, 0), 0);
        Sentence.due("two at 1, not FIT", never.lots(20, 1, 1), 0);
        DutiesProved always = Sentence.of("t20,60,9;");
        Sentence.due("9 at most", always.lots(20, 7, 0), 20);
        Sentence.due("9 at most, all FIT", always.lots(20, 7, 1), 20);
        DutiesProved blocked = Sentence.of("t20,60,9;t20,60,60;h0,0=1;h1,0=9;");
        Sentence.due("LOCKS are nothing to a MISS", blocked.lots(20, 7, 0), 20);
        Sentence.due("but to those that FIT", blocked.lots(20, 7, 1), 0);
        DutiesProved byLimit = Sentence.of("t1,60,10;t1,2,60;k1=4,0;r1=9;");
        Sentence.due("by LIMIT alone", byLimit.lots(20, 7, 1), 20);
    }
}
