public final class DutiesProved {
    private static final int NONE = -9;
    private static final int FINE = 0;
    private static final int NOBODY = -1;
    private static final int OTHER = -2;
    private static final int STATE = -3;
    private static final int BELOW = -4;
    private static final int ROOM = -6;
    private static final long LONG_REFUSALS = 4000000000000000000L;

    private static final int MOST_TASKS = 6;
    private static final int TASK_SETS = 64;
    private static final int LOCKS = 4;
    private static final int MOST_COST = 20;
    private static final int LEAST_PERIOD = 2;
    private static final int MOST_PERIOD = 60;
    private static final int MOST_DEADLINE = 60;
    private static final int MOST_OFFSET = 59;
    private static final int MOST_RANK = 9;
    private static final int MOST_FIGURE = 9;
    private static final int MOST_HELD = 9;
    private static final int LONGEST = 600;
    private static final int GREATEST = 2147483647;

    private static final int JITTERY = 1;
    private static final int SPORADIC = 2;
    private static final int BURSTY = 3;
    private static final int SERVED = 4;
    private static final int URGENT = 5;
    private static final int KINDS = 6;

    private static final int RATE = 0;
    private static final int BY_LIMIT = 1;
    private static final int RANK = 2;
    private static final int EARLIEST = 3;

    private static final int MOST_LETTERS = 96;
    private static final int MOST_LETTER = 255;
    private static final int NO_LETTER = -1;
    private static final int SYNTAX_FAULT = -1000;
    private static final int MEANING_FAULT = -2000;

    private static final int MOST_IN_ROW = 8;
    private static final int MOST_ROW_NUMBER = 99;
    private static final int MOST_SLACK = 99;
    private static final int SPARE_WITHOUT_POINTS = 1000;
    private static final int MOST_ODDS = 20;
    private static final int TASKS_WITH_ODDS = 5;
    private static final int MOST_LOTS = 20;
    private static final int MOST_DRAWN_COST = 9;

    private static final int UNITS = 60;
    private static final int MOST_JOBS = 360;

    private final Duties duties = new Duties();
    private final Duties trial = new Duties();
    private final Duties kept = new Duties();
    private boolean hasKept = false;
    private final PointWalk points = new PointWalk();
    private final Responses responses = new Responses();
    private final LawfulOrder lawfulOrder = new LawfulOrder();
    private final Timeline timeline = new Timeline();
    private final Telling telling = new Telling();
    private final int[] rowNumbers = new int[MOST_IN_ROW];
    private int rowLength = 0;
    private final int[] refusals = new int[7];
    private int seed = 0;

    public DutiesProved() {
    }

    public int letter(int c) {
        int refusal = outside(c, 0, MOST_LETTER);
        if (refusal == FINE && telling.isFull()) {
            refusal = ROOM;
        }
        return refusal != FINE ? refuse(refusal) : telling.append(c);
    }

    public int tells() {
        trial.copyFrom(duties);
        int answer = telling.tellTo(trial);
        if (answer > 0) {
            duties.copyFrom(trial);
        }
        return answer;
    }

    public int tasks(int cost, int period, int deadline) {
        if (cost < 1 || period < LEAST_PERIOD || deadline < 1) {
            return refuse(BELOW);
        }
        if (!Duties.canBe(cost, period, deadline) || duties.isFull()) {
            return refuse(ROOM);
        }
        return duties.add(cost, period, deadline);
    }

    public int turns(int task) {
        int refusal = missingTask(task);
        if (refusal != FINE) {
            return refuse(refusal);
        }
        duties.toggle(task);
        return duties.isOn(task) ? 1 : 0;
    }

    public int offset(int task, int offset) {
        int refusal = firstOf(missingTask(task), outside(offset, 0, MOST_OFFSET));
        return refusal != FINE ? refuse(refusal) : exchange(duties.offset, task, offset);
    }

    public int rank(int task, int rank) {
        int refusal = firstOf(missingTask(task), outside(rank, 0, MOST_RANK));
        return refusal != FINE ? refuse(refusal) : exchange(duties.rank, task, rank);
    }

    public int cost(int task, int cost) {
        int refusal = firstOf(missingTask(task), outside(cost, 1, MOST_COST));
        return refusal != FINE ? refuse(refusal) : exchange(duties.cost, task, cost);
    }

    public int kind(int task, int kind, int figure) {
        int refusal = firstOf(missingTask(task), otherThan(kind, KINDS));
        refusal = firstOf(refusal, outside(figure, 0, MOST_FIGURE));
        if (refusal != FINE) {
            return refuse(refusal);
        }
        int old = 10 * duties.kind[task] + duties.figure[task];
        duties.setKind(task, kind, figure);
        return old;
    }

    public int holds(int task, int lock, int time) {
        int refusal = firstOf(missingTask(task), missingLock(lock));
        refusal = firstOf(refusal, outside(time, 0, MOST_HELD));
        return refusal != FINE ? refuse(refusal) : exchange(duties.held, task * LOCKS + lock, time);
    }

    public int task(int task, int what) {
        int refusal = firstOf(missingTask(task), otherThan(what, 11));
        return refusal != FINE ? refuse(refusal) : duties.trait(task, what);
    }

    public int asked(int task, int t) {
        int refusal = firstOf(missingTask(task), outside(t, 0, LONGEST));
        return refusal != FINE ? refuse(refusal) : duties.askedWithin(task, t);
    }

    public int owed(int task, int t) {
        int refusal = firstOf(missingTask(task), outside(t, 0, LONGEST));
        return refusal != FINE ? refuse(refusal) : duties.owedWithin(task, t);
    }

    public int demand(int t) {
        int refusal = outside(t, 0, LONGEST);
        return refusal != FINE ? refuse(refusal) : duties.demandWithin(t);
    }

    public int busy() {
        return points.busyTime(duties);
    }

    public int point(int i) {
        if (i < -1) {
            return refuse(BELOW);
        }
        return i < 0 ? points.countPoints(duties) : points.pointAt(duties, i);
    }

    public int miss() {
        return points.missTime(duties);
    }

    public int spare() {
        return points.leastSpare(duties);
    }

    public int order(int policy, int i) {
        int refusal = firstOf(otherThan(policy, EARLIEST), outside(i, 0, GREATEST));
        return refusal != FINE ? refuse(refusal) : Responses.taskAt(duties, policy, i);
    }

    public int ceiling(int policy, int lock) {
        int refusal = firstOf(otherThan(policy, EARLIEST), missingLock(lock));
        return refusal != FINE ? refuse(refusal) : Responses.ceilingOf(duties, policy, lock);
    }

    public int blocking(int policy, int task) {
        int refusal = notInOrder(policy, task);
        return refusal != FINE ? refuse(refusal) : Responses.blockingBy(duties, policy, task);
    }

    public int response(int policy, int task) {
        int refusal = notInOrder(policy, task);
        return refusal != FINE ? refuse(refusal) : responses.settleBy(duties, policy, task);
    }

    public int rounds(int policy, int task) {
        int refusal = notInOrder(policy, task);
        if (refusal != FINE) {
            return refuse(refusal);
        }
        return responses.settleBy(duties, policy, task) == NONE ? NONE : responses.roundsTaken();
    }

    public int fits(int policy) {
        int refusal = otherThan(policy, EARLIEST);
        return refusal != FINE ? refuse(refusal) : responses.fitting(duties, policy);
    }

    public int lawful(int i) {
        if (i < 0) {
            return refuse(BELOW);
        }
        lawfulOrder.look(duties);
        return lawfulOrder.taskAt(duties, i);
    }

    public int run(int policy, int unit) {
        int refusal = firstOf(otherThan(policy, EARLIEST + 1), outside(unit, 0, UNITS - 1));
        if (refusal != FINE) {
            return refuse(refusal);
        }
        timeline.play(duties, policy);
        return timeline.workedAt(unit);
    }

    public int jobs(int policy, int task, int what) {
        int refusal = firstOf(otherThan(policy, EARLIEST + 1), missingTask(task));
        refusal = firstOf(refusal, otherThan(what, 2));
        if (refusal != FINE) {
            return refuse(refusal);
        }
        timeline.play(duties, policy);
        return what == 0 ? timeline.doneOf(task) : timeline.missedOf(task);
    }

    public int first(int policy, int what) {
        int refusal = firstOf(otherThan(policy, EARLIEST + 1), otherThan(what, 2));
        if (refusal != FINE) {
            return refuse(refusal);
        }
        timeline.play(duties, policy);
        return what == 0 ? timeline.firstMissTime() : timeline.firstMissTask();
    }

    public int slack(int task) {
        int refusal = firstOf(missingTask(task), turnedOff(task));
        return refusal != FINE ? refuse(refusal) : mostMore(EARLIEST, task);
    }

    public int slackBy(int policy, int task) {
        int refusal = notInOrder(policy, task);
        return refusal != FINE ? refuse(refusal) : mostMore(policy, task);
    }

    public long load(int part) {
        int refusal = otherThan(part, 2);
        if (refusal != FINE) {
            return refuseLong(refusal);
        }
        long below = duties.commonDistance();
        return partOf(duties.workWithin(below), below, part);
    }

    public int anew() {
        long common = duties.commonDistance();
        return common > GREATEST ? NONE : (int) common;
    }

    public long missing(int t, int part) {
        int refusal = firstOf(outside(t, 2, MOST_ODDS), otherThan(part, 2));
        if (refusal != FINE) {
            return refuseLong(refusal);
        }
        int unsure = duties.onBits & ((1 << TASKS_WITH_ODDS) - 1);
        return partOf(waysWithoutMiss(unsure, t), power(t, Integer.bitCount(unsure)), part);
    }

    public int whatIs(int task, int what) {
        int refusal = firstOf(missingTask(task), otherThan(what, 2));
        if (refusal != FINE) {
            return refuse(refusal);
        }
        return what == 0 ? kindsByRow(task) : figuresByRow(task);
    }

    public int row(int v) {
        int refusal = outside(v, 0, MOST_ROW_NUMBER);
        if (refusal == FINE && rowLength >= MOST_IN_ROW) {
            refusal = ROOM;
        }
        if (refusal != FINE) {
            return refuse(refusal);
        }
        rowNumbers[rowLength] = v;
        rowLength++;
        return rowLength;
    }

    public int judge(int policy) {
        int refusal = otherThan(policy, EARLIEST);
        if (refusal != FINE) {
            return refuse(refusal);
        }
        int verdict = firstWrongInRow(policy);
        rowLength = 0;
        return verdict;
    }

    public int clear() {
        int had = rowLength;
        rowLength = 0;
        return had;
    }

    public int lots(int n, int z, int what) {
        int refusal = firstOf(outside(n, 1, MOST_LOTS), otherThan(what, 2));
        if (refusal != FINE) {
            return refuse(refusal);
        }
        trial.copyFrom(duties);
        seed = z;
        int good = 0;
        for (int lot = 0; lot < n; lot++) {
            drawCosts();
            if (isTrialGood(what == 0 ? EARLIEST : BY_LIMIT)) {
                good++;
            }
        }
        return good;
    }

    public int image() {
        kept.copyFrom(duties);
        hasKept = true;
        return kept.number;
    }

    public int on() {
        if (!hasKept) {
            return refuse(STATE);
        }
        duties.copyFrom(kept);
        return duties.number;
    }

    public int count(int what) {
        switch (what) {
            case 0:
                return duties.number;
            case 1:
                return duties.onBits;
            case 2:
                return duties.costTogether();
            case 3:
                return rowLength;
            case 4:
                return telling.size();
            default:
                return what >= 11 && what <= 16 ? refusals[what - 10] : NONE;
        }
    }

    private int refuse(int refusal) {
        if (-refusal > 0 && -refusal < refusals.length) {
            refusals[-refusal]++;
        }
        return refusal;
    }

    private long refuseLong(int refusal) {
        return LONG_REFUSALS - refuse(refusal);
    }

    private static int firstOf(int refusal, int next) {
        return refusal != FINE ? refusal : next;
    }

    private static int outside(int number, int least, int most) {
        if (number < least) {
            return BELOW;
        }
        return number > most ? ROOM : FINE;
    }

    private static int otherThan(int number, int bound) {
        return number >= 0 && number < bound ? FINE : OTHER;
    }

    private static int missingLock(int lock) {
        return lock >= 0 && lock < LOCKS ? FINE : NOBODY;
    }

    private int missingTask(int task) {
        return duties.has(task) ? FINE : NOBODY;
    }

    private int turnedOff(int task) {
        return duties.isOn(task) ? FINE : STATE;
    }

    private int notInOrder(int policy, int task) {
        return firstOf(firstOf(otherThan(policy, EARLIEST), missingTask(task)), turnedOff(task));
    }

    private static int exchange(int[] row, int at, int value) {
        if (at < 0 || at >= row.length) {
            return 0;
        }
        int old = row[at];
        row[at] = value;
        return old;
    }

    private static long partOf(long above, long below, int part) {
        long common = Numbers.commonDivisor(above, below);
        long whole = part == 0 ? above : below;
        return common > 0 ? whole / common : whole;
    }

    // EARLIEST stands for the look at demands: none is missed by it when no demand is.
    private boolean isTrialGood(int policy) {
        if (policy == EARLIEST) {
            return points.missTime(trial) == NONE;
        }
        return responses.fitting(trial, policy) == trial.onBits;
    }

    // What is good with more is good with less too, so halving finds the most.
    private int mostMore(int policy, int task) {
        trial.copyFrom(duties);
        int most = NONE;
        int low = 0;
        int high = MOST_SLACK;
        for (int step = 0; step <= MOST_SLACK && low <= high; step++) {
            int more = (low + high) / 2;
            trial.cost[task] = duties.cost[task] + more;
            if (isTrialGood(policy)) {
                most = more;
                low = more + 1;
            } else {
                high = more - 1;
            }
        }
        return most;
    }

    private long waysWithoutMiss(int unsure, int t) {
        trial.copyFrom(duties);
        int sure = duties.onBits & ~unsure;
        long ways = 0;
        for (int there = 0; there <= unsure; there++) {
            if ((there & ~unsure) != 0) {
                continue;
            }
            trial.onBits = sure | there;
            if (points.missTime(trial) == NONE) {
                ways += power(t - 1, Integer.bitCount(there));
            }
        }
        return ways;
    }

    private static long power(int base, int times) {
        long product = 1;
        for (int i = 0; i < times; i++) {
            product *= base;
        }
        return product;
    }

    private int kindsByRow(int task) {
        trial.copyFrom(duties);
        int bits = 0;
        for (int kind = 0; kind < KINDS; kind++) {
            trial.setKind(task, kind, duties.figure[task]);
            if (points.beginsWith(trial, rowNumbers, rowLength)) {
                bits |= 1 << kind;
            }
        }
        return bits;
    }

    private int figuresByRow(int task) {
        trial.copyFrom(duties);
        int bits = 0;
        for (int figure = 0; figure <= MOST_FIGURE; figure++) {
            trial.setKind(task, duties.kind[task], figure);
            if (points.beginsWith(trial, rowNumbers, rowLength)) {
                bits |= 1 << figure;
            }
        }
        return bits;
    }

    private int firstWrongInRow(int policy) {
        int longer = Math.max(rowLength, duties.number);
        for (int i = 0; i < longer; i++) {
            if (i >= rowLength || i >= duties.number || rowNumbers[i] != dueInRow(policy, i)) {
                return i;
            }
        }
        return NONE;
    }

    private int dueInRow(int policy, int task) {
        if (!duties.isOn(task)) {
            return 0;
        }
        int response = responses.settleBy(duties, policy, task);
        return response == NONE ? 0 : response;
    }

    private void drawCosts() {
        for (int task = 0; task < trial.number; task++) {
            trial.cost[task] = 1 + draw(MOST_DRAWN_COST);
        }
    }

    private int draw(int bound) {
        seed = seed * 1664525 + 1013904223;
        return bound > 0 ? (seed & GREATEST) / 256 % bound : 0;
    }

    private static final class Numbers {
        static long commonDivisor(long a, long b) {
            long left = a;
            long right = b;
            for (int step = 0; step < 200 && right != 0; step++) {
                long rest = left % right;
                left = right;
                right = rest;
            }
            return left;
        }

        static long commonMultiple(long a, long b) {
            long divisor = commonDivisor(a, b);
            return divisor > 0 ? a / divisor * b : 0;
        }
    }

    private static final class Duties {
        int number = 0;
        int onBits = 0;
        final int[] cost = new int[MOST_TASKS];
        final int[] period = new int[MOST_TASKS];
        final int[] deadline = new int[MOST_TASKS];
        final int[] offset = new int[MOST_TASKS];
        final int[] rank = new int[MOST_TASKS];
        final int[] kind = new int[MOST_TASKS];
        final int[] figure = new int[MOST_TASKS];
        final int[] held = new int[MOST_TASKS * LOCKS];
        final int[] distance = new int[MOST_TASKS];
        final int[] late = new int[MOST_TASKS];
        final int[] limit = new int[MOST_TASKS];
        private final int[] mostJobs = new int[MOST_TASKS];
        private final int[] moreJobs = new int[MOST_TASKS];

        static boolean canBe(int cost, int period, int deadline) {
            return cost >= 1 && cost <= MOST_COST && period >= LEAST_PERIOD && period <= MOST_PERIOD
                    && deadline >= 1 && deadline <= MOST_DEADLINE;
        }

        void copyFrom(Duties other) {
            number = other.number;
            onBits = other.onBits;
            System.arraycopy(other.cost, 0, cost, 0, MOST_TASKS);
            System.arraycopy(other.period, 0, period, 0, MOST_TASKS);
            System.arraycopy(other.deadline, 0, deadline, 0, MOST_TASKS);
            System.arraycopy(other.offset, 0, offset, 0, MOST_TASKS);
            System.arraycopy(other.rank, 0, rank, 0, MOST_TASKS);
            System.arraycopy(other.kind, 0, kind, 0, MOST_TASKS);
            System.arraycopy(other.figure, 0, figure, 0, MOST_TASKS);
            System.arraycopy(other.held, 0, held, 0, MOST_TASKS * LOCKS);
            System.arraycopy(other.distance, 0, distance, 0, MOST_TASKS);
            System.arraycopy(other.late, 0, late, 0, MOST_TASKS);
            System.arraycopy(other.limit, 0, limit, 0, MOST_TASKS);
            System.arraycopy(other.mostJobs, 0, mostJobs, 0, MOST_TASKS);
            System.arraycopy(other.moreJobs, 0, moreJobs, 0, MOST_TASKS);
        }

        boolean isFull() {
            return number >= MOST_TASKS;
        }

        boolean has(int task) {
            return task >= 0 && task < number;
        }

        boolean isOn(int task) {
            return has(task) && (onBits & (1 << task)) != 0;
        }

        int add(int itsCost, int itsPeriod, int itsDeadline) {
            if (isFull()) {
                return NONE;
            }
            int task = number;
            cost[task] = itsCost;
            period[task] = itsPeriod;
            deadline[task] = itsDeadline;
            setKind(task, kind[task], figure[task]);
            onBits |= 1 << task;
            number++;
            return task;
        }

        void toggle(int task) {
            if (has(task)) {
                onBits ^= 1 << task;
            }
        }

        int trait(int task, int what) {
            switch (what) {
                case 0:
                    return cost[task];
                case 1:
                    return period[task];
                case 2:
                    return deadline[task];
                case 3:
                    return offset[task];
                case 4:
                    return rank[task];
                case 5:
                    return kind[task];
                case 6:
                    return figure[task];
                case 7:
                    return isOn(task) ? 1 : 0;
                case 8:
                    return distance[task];
                case 9:
                    return late[task];
                default:
                    return limit[task];
            }
        }

        // What follows from the kind is kept, as each look at a time asks for it.
        void setKind(int task, int itsKind, int itsFigure) {
            kind[task] = itsKind;
            figure[task] = itsFigure;
            boolean sporadic = itsKind == SPORADIC || itsKind == BURSTY;
            boolean jittery = itsKind == JITTERY || itsKind == SERVED;
            distance[task] = sporadic ? period[task] + itsFigure : period[task];
            late[task] = jittery ? itsFigure : 0;
            limit[task] = itsKind == URGENT ? Math.max(1, deadline[task] - itsFigure) : deadline[task];
            mostJobs[task] = itsKind == SERVED ? itsFigure + 1 : GREATEST;
            moreJobs[task] = itsKind == BURSTY ? 1 : 0;
        }

        int askedWithin(int task, int t) {
            int apart = distance[task];
            if (t <= 0 || apart <= 0) {
                return 0;
            }
            int many = (t + late[task] + apart - 1) / apart;
            return Math.min(many, mostJobs[task]) + moreJobs[task];
        }

        int owedWithin(int task, int t) {
            int apart = distance[task];
            int over = t + late[task] - limit[task];
            if (t <= 0 || over < 0 || apart <= 0) {
                return 0;
            }
            return Math.min(over / apart + 1, mostJobs[task]) + moreJobs[task];
        }

        int demandWithin(int t) {
            int together = 0;
            for (int task = 0; task < number; task++) {
                if ((onBits & (1 << task)) != 0) {
                    together += cost[task] * owedWithin(task, t);
                }
            }
            return together;
        }

        int workAsked(int bits, int t) {
            int together = 0;
            for (int task = 0; task < number; task++) {
                if ((bits & (1 << task)) != 0) {
                    together += cost[task] * askedWithin(task, t);
                }
            }
            return together;
        }

        int costTogether() {
            int together = 0;
            for (int task = 0; task < number; task++) {
                if (isOn(task)) {
                    together += cost[task];
                }
            }
            return together;
        }

        long commonDistance() {
            long common = 1;
            for (int task = 0; task < number; task++) {
                if (isOn(task)) {
                    common = Numbers.commonMultiple(common, distance[task]);
                }
            }
            return common;
        }

        long workWithin(long time) {
            long together = 0;
            for (int task = 0; task < number; task++) {
                int apart = distance[task];
                if (isOn(task) && apart > 0) {
                    together += time / apart * cost[task];
                }
            }
            return together;
        }
    }

    // POINTS are looked for one by one and not kept: most questions end at an early one.
    private static final class PointWalk {
        private int busyEnd = 0;
        private int end = 0;
        private int at = 0;
        private int demand = 0;

        private void begin(Duties duties) {
            busyEnd = NONE;
            int t = duties.workAsked(duties.onBits, 1);
            // Each step but the last makes t greater, so LONGEST of them are enough.
            for (int step = 0; step <= LONGEST && t <= LONGEST && busyEnd == NONE; step++) {
                int next = duties.workAsked(duties.onBits, t);
                if (next == t) {
                    busyEnd = t;
                }
                t = next;
            }
            end = busyEnd == NONE ? LONGEST : busyEnd;
            at = 0;
            demand = 0;
        }

        int busyTime(Duties duties) {
            begin(duties);
            return busyEnd;
        }

        private boolean goOn(Duties duties) {
            for (int t = at + 1; t <= end; t++) {
                int now = duties.demandWithin(t);
                if (now > demand) {
                    at = t;
                    demand = now;
                    return true;
                }
            }
            at = end;
            return false;
        }

        int countPoints(Duties duties) {
            int many = 0;
            begin(duties);
            while (many < LONGEST && goOn(duties)) {
                many++;
            }
            return many;
        }

        int pointAt(Duties duties, int i) {
            begin(duties);
            for (int n = 0; n < LONGEST && goOn(duties); n++) {
                if (n == i) {
                    return at;
                }
            }
            return NONE;
        }

        int missTime(Duties duties) {
            begin(duties);
            for (int n = 0; n < LONGEST && goOn(duties); n++) {
                if (demand > at) {
                    return at;
                }
            }
            return NONE;
        }

        int leastSpare(Duties duties) {
            int least = SPARE_WITHOUT_POINTS;
            begin(duties);
            for (int n = 0; n < LONGEST && goOn(duties); n++) {
                least = Math.min(least, at - demand);
            }
            return least;
        }

        boolean beginsWith(Duties duties, int[] told, int many) {
            begin(duties);
            for (int n = 0; n < many && n < told.length; n++) {
                if (!goOn(duties) || at != told[n]) {
                    return false;
                }
            }
            return true;
        }
    }

    // Orders are looked at as sets (bits) of those ahead and of those behind: no more than these
    // two decides what blocks a task and what its response is.
    private static final class Responses {
        private int rounds = 0;

        int roundsTaken() {
            return rounds;
        }

        private static int key(Duties duties, int policy, int task) {
            switch (policy) {
                case RATE:
                    return duties.period[task];
                case RANK:
                    return -duties.rank[task];
                default:
                    return duties.limit[task];
            }
        }

        static boolean precedes(Duties duties, int policy, int task, int other) {
            int own = key(duties, policy, task);
            int others = key(duties, policy, other);
            return own < others || own == others && task < other;
        }

        private static int aheadOf(Duties duties, int policy, int task) {
            int bits = 0;
            for (int other = 0; other < duties.number; other++) {
                if (duties.isOn(other) && precedes(duties, policy, other, task)) {
                    bits |= 1 << other;
                }
            }
            return bits;
        }

        private static int behind(Duties duties, int task, int ahead) {
            return duties.onBits & ~ahead & ~(1 << task);
        }

        static int taskAt(Duties duties, int policy, int place) {
            for (int task = 0; task < duties.number; task++) {
                if (duties.isOn(task) && Integer.bitCount(aheadOf(duties, policy, task)) == place) {
                    return task;
                }
            }
            return NONE;
        }

        static int ceilingOf(Duties duties, int policy, int lock) {
            int best = NONE;
            for (int task = 0; task < duties.number; task++) {
                if (duties.isOn(task) && duties.held[task * LOCKS + lock] > 0
                        && (best == NONE || precedes(duties, policy, task, best))) {
                    best = task;
                }
            }
            return best;
        }

        static int blockingBy(Duties duties, int policy, int task) {
            int ahead = aheadOf(duties, policy, task);
            return blockingAt(duties, ahead | 1 << task, behind(duties, task, ahead));
        }

        // A ceiling is the task or ahead of it just if one of these holds the lock.
        private static int blockingAt(Duties duties, int upToIt, int behind) {
            int most = 0;
            for (int lock = 0; lock < LOCKS; lock++) {
                if (longestHold(duties, upToIt, lock) > 0) {
                    most = Math.max(most, longestHold(duties, behind, lock));
                }
            }
            return most;
        }

        private static int longestHold(Duties duties, int bits, int lock) {
            int longest = 0;
            for (int task = 0; task < duties.number; task++) {
                if ((bits & (1 << task)) != 0) {
                    longest = Math.max(longest, duties.held[task * LOCKS + lock]);
                }
            }
            return longest;
        }

        int settleBy(Duties duties, int policy, int task) {
            int ahead = aheadOf(duties, policy, task);
            return settle(duties, task, ahead, behind(duties, task, ahead));
        }

        int settle(Duties duties, int task, int ahead, int behind) {
            int own = duties.cost[task] * duties.askedWithin(task, 1)
                    + blockingAt(duties, ahead | 1 << task, behind);
            int r = own;
            rounds = 1;
            // Each step but the last makes r greater, so LONGEST of them are enough.
            for (int step = 0; step <= LONGEST && r <= LONGEST; step++) {
                int next = own + duties.workAsked(ahead, r);
                if (next == r) {
                    return r;
                }
                r = next;
                rounds++;
            }
            return NONE;
        }

        static boolean isSoonEnough(Duties duties, int task, int response) {
            return response != NONE && response + duties.late[task] <= duties.limit[task];
        }

        int fitting(Duties duties, int policy) {
            int bits = 0;
            for (int task = 0; task < duties.number; task++) {
                if (!duties.isOn(task)) {
                    continue;
                }
                int ahead = aheadOf(duties, policy, task);
                int response = settle(duties, task, ahead, behind(duties, task, ahead));
                if (isSoonEnough(duties, task, response)) {
                    bits |= 1 << task;
                }
            }
            return bits;
        }
    }

    // A task put last can block those ahead of it for longer than it would have worked there, so
    // the first that fits last isn't always right: for each set it is kept whether it can be ahead.
    private static final class LawfulOrder {
        private final Responses responses = new Responses();
        private final boolean[] canBeAhead = new boolean[TASK_SETS];

        int taskAt(Duties duties, int place) {
            int left = duties.onBits;
            for (int at = Integer.bitCount(left) - 1; at >= 0; at--) {
                int task = lastOf(duties, left);
                if (task == NONE || at == place) {
                    return task;
                }
                left &= ~(1 << task);
            }
            return NONE;
        }

        void look(Duties duties) {
            canBeAhead[0] = true;
            for (int set = 1; set < TASK_SETS; set++) {
                boolean allOn = (set & ~duties.onBits) == 0;
                canBeAhead[set] = allOn && lastOf(duties, set) != NONE;
            }
        }

        private int lastOf(Duties duties, int set) {
            for (int task = 0; task < duties.number; task++) {
                int ahead = set & ~(1 << task);
                if (ahead == set || !canBeAhead[ahead]) {
                    continue;
                }
                int response = responses.settle(duties, task, ahead, duties.onBits & ~set);
                if (Responses.isSoonEnough(duties, task, response)) {
                    return task;
                }
            }
            return NONE;
        }
    }

    private static final class Timeline {
        private final int[] worked = new int[UNITS];
        private final int[] done = new int[MOST_TASKS];
        private final int[] missed = new int[MOST_TASKS];
        private int missTime = NONE;
        private int missTask = NONE;
        private final int[] jobTask = new int[MOST_JOBS];
        private final int[] jobDue = new int[MOST_JOBS];
        private final int[] jobLeft = new int[MOST_JOBS];
        private int jobCount = 0;

        int workedAt(int unit) {
            return unit >= 0 && unit < UNITS ? worked[unit] : NONE;
        }

        int doneOf(int task) {
            return done[task];
        }

        int missedOf(int task) {
            return missed[task];
        }

        int firstMissTime() {
            return missTime;
        }

        int firstMissTask() {
            return missTask;
        }

        void play(Duties duties, int policy) {
            forget();
            for (int unit = 0; unit < UNITS; unit++) {
                dropMissed(unit);
                for (int task = 0; task < duties.number; task++) {
                    if (duties.isOn(task)) {
                        letCome(duties, task, unit);
                    }
                }
                worked[unit] = workOne(duties, policy);
            }
            dropMissed(UNITS);
        }

        private void forget() {
            jobCount = 0;
            missTime = NONE;
            missTask = NONE;
            for (int task = 0; task < MOST_TASKS; task++) {
                done[task] = 0;
                missed[task] = 0;
            }
        }

        private void dropMissed(int now) {
            int stay = 0;
            for (int job = 0; job < jobCount; job++) {
                if (jobDue[job] <= now) {
                    noteMiss(jobTask[job], now);
                } else {
                    moveJob(job, stay);
                    stay++;
                }
            }
            jobCount = stay;
        }

        private void moveJob(int from, int to) {
            jobTask[to] = jobTask[from];
            jobDue[to] = jobDue[from];
            jobLeft[to] = jobLeft[from];
        }

        private void noteMiss(int task, int now) {
            missed[task]++;
            if (missTime == NONE || missTime == now && task < missTask) {
                missTime = now;
                missTask = task;
            }
        }

        // One job of an odd number can come in the unit of a later one that is even: it goes first.
        private void letCome(Duties duties, int task, int unit) {
            int since = unit - duties.offset[task];
            comeIfSo(duties, task, since - duties.late[task], 1);
            comeIfSo(duties, task, since, 0);
        }

        private void comeIfSo(Duties duties, int task, int since, int parity) {
            int apart = duties.distance[task];
            if (since < 0 || apart <= 0 || since % apart != 0) {
                return;
            }
            int k = since / apart;
            if (k % 2 != parity) {
                return;
            }
            if (duties.kind[task] == SERVED && k > duties.figure[task]) {
                return;
            }
            int due = duties.offset[task] + since + duties.limit[task];
            addJob(task, due, duties.cost[task]);
            if (duties.kind[task] == BURSTY) {
                addJob(task, due, duties.cost[task]);
            }
        }

        private void addJob(int task, int due, int cost) {
            if (jobCount < MOST_JOBS) {
                jobTask[jobCount] = task;
                jobDue[jobCount] = due;
                jobLeft[jobCount] = cost;
                jobCount++;
            }
        }

        private int workOne(Duties duties, int policy) {
            if (jobCount == 0) {
                return NONE;
            }
            int best = 0;
            for (int job = 1; job < jobCount; job++) {
                if (goesFirst(duties, policy, job, best)) {
                    best = job;
                }
            }
            int task = jobTask[best];
            jobLeft[best]--;
            if (jobLeft[best] == 0) {
                done[task]++;
                removeJob(best);
            }
            return task;
        }

        private boolean goesFirst(Duties duties, int policy, int job, int other) {
            if (policy != EARLIEST) {
                return Responses.precedes(duties, policy, jobTask[job], jobTask[other]);
            }
            return jobDue[job] < jobDue[other]
                    || jobDue[job] == jobDue[other] && jobTask[job] < jobTask[other];
        }

        private void removeJob(int gone) {
            for (int job = gone + 1; job < jobCount; job++) {
                moveJob(job, job - 1);
            }
            jobCount--;
        }
    }

    private static final class Telling {
        private final int[] letters = new int[MOST_LETTERS];
        private int length = 0;
        private final int[] numbers = new int[3];
        private int verb = NO_LETTER;
        private int place = 0;

        int size() {
            return length;
        }

        boolean isFull() {
            return length >= MOST_LETTERS;
        }

        int append(int c) {
            if (!isFull()) {
                letters[length] = c;
                length++;
            }
            return length;
        }

        int tellTo(Duties duties) {
            int answer = readAll();
            if (answer > 0) {
                answer = carryOutAll(duties, answer);
            }
            length = 0;
            return answer;
        }

        private int readAll() {
            int statements = 0;
            place = 0;
            while (place < length && statements < MOST_LETTERS) {
                if (!readStatement()) {
                    return SYNTAX_FAULT - place;
                }
                statements++;
            }
            return statements > 0 ? statements : SYNTAX_FAULT;
        }

        private int carryOutAll(Duties duties, int statements) {
            place = 0;
            for (int i = 0; i < statements; i++) {
                int from = place;
                if (!readStatement() || !carryOut(duties)) {
                    return MEANING_FAULT - from;
                }
            }
            return statements;
        }

        // The place stays where the reading ended, as a FAULT tells it.
        private boolean readStatement() {
            verb = here();
            String marks = marksOf(verb);
            if (marks.isEmpty()) {
                return false;
            }
            place++;
            for (int i = 0; i < marks.length(); i++) {
                if (!readNumber(i) || here() != marks.charAt(i)) {
                    return false;
                }
                place++;
            }
            return true;
        }

        // Each number has one mark behind it, so its marks alone tell how a statement looks.
        private static String marksOf(int verb) {
            switch (verb) {
                case 't':
                    return ",,;";
                case 'o':
                case 'r':
                    return "=;";
                case 'k':
                    return "=,;";
                case 'h':
                    return ",=;";
                case 'x':
                    return ";";
                default:
                    return "";
            }
        }

        private boolean readNumber(int i) {
            if (!isDigit(here()) || i < 0 || i >= numbers.length) {
                return false;
            }
            int number = here() - '0';
            place++;
            if (isDigit(here())) {
                number = number * 10 + here() - '0';
                place++;
            }
            numbers[i] = number;
            return true;
        }

        private int here() {
            return place >= 0 && place < length ? letters[place] : NO_LETTER;
        }

        private static boolean isDigit(int c) {
            return c >= '0' && c <= '9';
        }

        private boolean carryOut(Duties duties) {
            int one = numbers[0];
            int two = numbers[1];
            int three = numbers[2];
            if (verb == 't') {
                return Duties.canBe(one, two, three) && duties.add(one, two, three) != NONE;
            }
            if (!duties.has(one)) {
                return false;
            }
            switch (verb) {
                case 'o':
                    return put(duties.offset, one, two, MOST_OFFSET);
                case 'r':
                    return put(duties.rank, one, two, MOST_RANK);
                case 'k':
                    return putKind(duties, one, two, three);
                case 'h':
                    return two < LOCKS && put(duties.held, one * LOCKS + two, three, MOST_HELD);
                default:
                    duties.toggle(one);
                    return true;
            }
        }

        private static boolean putKind(Duties duties, int task, int kind, int figure) {
            if (kind >= KINDS || figure > MOST_FIGURE) {
                return false;
            }
            duties.setKind(task, kind, figure);
            return true;
        }

        private static boolean put(int[] row, int at, int value, int most) {
            if (at < 0 || at >= row.length || value < 0 || value > most) {
                return false;
            }
            row[at] = value;
            return true;
        }
    }
}
