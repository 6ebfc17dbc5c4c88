import java.math.BigInteger;
import java.util.ArrayList;
import java.util.List;
import java.util.regex.Matcher;
import java.util.regex.Pattern;

/** The document once more, as plainly and slowly as it can be told: all is tried, nothing is kept. */
final class Model {
    static final long LONGS = 4000000000000000000L;

    static final class Duty {
        int cost, period, deadline, offset, rank, kind, figure;
        boolean on = true;
        int[] held = new int[4];

        Duty copy() {
            Duty d = new Duty();
            d.cost = cost;
            d.period = period;
            d.deadline = deadline;
            d.offset = offset;
            d.rank = rank;
            d.kind = kind;
            d.figure = figure;
            d.on = on;
            d.held = held.clone();
            return d;
        }

        boolean is(int... kinds) {
            for (int k : kinds) {
                if (k == kind) return true;
            }
            return false;
        }

        int distance() { return period + (is(2, 3) ? figure : 0); }

        int late() { return is(1, 4) ? figure : 0; }

        int limit() { return is(5) ? Math.max(1, deadline - figure) : deadline; }

        int asked(int t) {
            if (t == 0) return 0;
            int n = (int) Math.ceil((t + late()) / (double) distance());
            if (is(3)) n++;
            if (is(4)) n = Math.min(n, figure + 1);
            return n;
        }

        int owed(int t) {
            if (t == 0 || t + late() < limit()) return 0;
            int n = (int) Math.floor((t + late() - limit()) / (double) distance()) + 1;
            if (is(3)) n++;
            if (is(4)) n = Math.min(n, figure + 1);
            return n;
        }
    }

    static final class Job {
        int task, k, there, due, left, missedAt = -1;
        boolean done;
    }

    List<Duty> duties = new ArrayList<>();
    List<Duty> kept = null;
    StringBuilder text = new StringBuilder();
    List<Integer> row = new ArrayList<>();
    int[] refused = new int[7];

    static List<Duty> copy(List<Duty> from) {
        List<Duty> to = new ArrayList<>();
        for (Duty d : from) to.add(d.copy());
        return to;
    }

    int no(int r) { refused[-r]++; return r; }

    boolean nobody(int task) { return task < 0 || task >= duties.size(); }

    // ---- the tasks

    int letter(int c) {
        if (c < 0) return no(-4);
        if (c > 255 || text.length() == 96) return no(-6);
        text.append((char) c);
        return text.length();
    }

    static final String STATEMENT = "t\\d\\d?,\\d\\d?,\\d\\d?;|o\\d\\d?=\\d\\d?;|r\\d\\d?=\\d\\d?;"
            + "|k\\d\\d?=\\d\\d?,\\d\\d?;|h\\d\\d?,\\d\\d?=\\d\\d?;|x\\d\\d?;";
    static final Pattern WHOLE = Pattern.compile("(?:" + STATEMENT + ")+");
    static final Pattern ONE = Pattern.compile(STATEMENT);
    static final Pattern NUMBER = Pattern.compile("\\d+");

    int tells() {
        String told = text.toString();
        text.setLength(0);
        for (int n = 1; n <= told.length(); n++) {
            Matcher m = WHOLE.matcher(told.substring(0, n));
            if (!m.matches() && !m.hitEnd()) return -1000 - (n - 1);
        }
        if (!WHOLE.matcher(told).matches()) return -1000 - told.length();
        List<Duty> now = copy(duties);
        Matcher m = ONE.matcher(told);
        int statements = 0;
        while (m.find()) {
            if (!comes(now, m.group())) return -2000 - m.start();
            statements++;
        }
        duties = now;
        return statements;
    }

    static boolean comes(List<Duty> now, String statement) {
        List<Integer> v = new ArrayList<>();
        Matcher m = NUMBER.matcher(statement);
        while (m.find()) v.add(Integer.valueOf(m.group()));
        char c = statement.charAt(0);
        if (c == 't') {
            if (now.size() == 6 || v.get(0) < 1 || v.get(0) > 20 || v.get(1) < 2 || v.get(1) > 60
                    || v.get(2) < 1 || v.get(2) > 60) return false;
            Duty d = new Duty();
            d.cost = v.get(0);
            d.period = v.get(1);
            d.deadline = v.get(2);
            now.add(d);
            return true;
        }
        if (v.get(0) >= now.size()) return false;
        Duty d = now.get(v.get(0));
        if (c == 'x') {
            d.on = !d.on;
        } else if (c == 'o') {
            if (v.get(1) > 59) return false;
            d.offset = v.get(1);
        } else if (c == 'r') {
            if (v.get(1) > 9) return false;
            d.rank = v.get(1);
        } else if (c == 'k') {
            if (v.get(1) > 5 || v.get(2) > 9) return false;
            d.kind = v.get(1);
            d.figure = v.get(2);
        } else {
            if (v.get(1) > 3 || v.get(2) > 9) return false;
            d.held[v.get(1)] = v.get(2);
        }
        return true;
    }

    int tasks(int cost, int period, int deadline) {
        if (cost < 1 || period < 2 || deadline < 1) return no(-4);
        if (cost > 20 || period > 60 || deadline > 60 || duties.size() == 6) return no(-6);
        Duty d = new Duty();
        d.cost = cost;
        d.period = period;
        d.deadline = deadline;
        duties.add(d);
        return duties.size() - 1;
    }

    int turns(int task) {
        if (nobody(task)) return no(-1);
        Duty d = duties.get(task);
        d.on = !d.on;
        return d.on ? 1 : 0;
    }

    int offset(int task, int offset) {
        if (nobody(task)) return no(-1);
        if (offset < 0) return no(-4);
        if (offset > 59) return no(-6);
        int old = duties.get(task).offset;
        duties.get(task).offset = offset;
        return old;
    }

    int rank(int task, int rank) {
        if (nobody(task)) return no(-1);
        if (rank < 0) return no(-4);
        if (rank > 9) return no(-6);
        int old = duties.get(task).rank;
        duties.get(task).rank = rank;
        return old;
    }

    int cost(int task, int cost) {
        if (nobody(task)) return no(-1);
        if (cost < 1) return no(-4);
        if (cost > 20) return no(-6);
        int old = duties.get(task).cost;
        duties.get(task).cost = cost;
        return old;
    }

    int kind(int task, int kind, int figure) {
        if (nobody(task)) return no(-1);
        if (kind < 0 || kind > 5) return no(-2);
        if (figure < 0) return no(-4);
        if (figure > 9) return no(-6);
        Duty d = duties.get(task);
        int old = 10 * d.kind + d.figure;
        d.kind = kind;
        d.figure = figure;
        return old;
    }

    int holds(int task, int lock, int time) {
        if (nobody(task) || lock < 0 || lock > 3) return no(-1);
        if (time < 0) return no(-4);
        if (time > 9) return no(-6);
        int old = duties.get(task).held[lock];
        duties.get(task).held[lock] = time;
        return old;
    }

    int task(int task, int what) {
        if (nobody(task)) return no(-1);
        if (what < 0 || what > 10) return no(-2);
        Duty d = duties.get(task);
        return new int[] {d.cost, d.period, d.deadline, d.offset, d.rank, d.kind, d.figure,
            d.on ? 1 : 0, d.distance(), d.late(), d.limit()}[what];
    }

    // ---- demands

    int asked(int task, int t) {
        if (nobody(task)) return no(-1);
        if (t < 0) return no(-4);
        if (t > 600) return no(-6);
        return duties.get(task).asked(t);
    }

    int owed(int task, int t) {
        if (nobody(task)) return no(-1);
        if (t < 0) return no(-4);
        if (t > 600) return no(-6);
        return duties.get(task).owed(t);
    }

    static int demandOf(List<Duty> all, int t) {
        return all.stream().filter(d -> d.on).mapToInt(d -> d.cost * d.owed(t)).sum();
    }

    static int askedOf(List<Duty> all, int t) {
        return all.stream().filter(d -> d.on).mapToInt(d -> d.cost * d.asked(t)).sum();
    }

    int demand(int t) {
        if (t < 0) return no(-4);
        if (t > 600) return no(-6);
        return demandOf(duties, t);
    }

    static int busyOf(List<Duty> all) {
        int t = askedOf(all, 1);
        while (t <= 600) {
            int u = askedOf(all, t);
            if (u == t) return t;
            t = u;
        }
        return -9;
    }

    int busy() { return busyOf(duties); }

    static List<Integer> pointsOf(List<Duty> all) {
        int busy = busyOf(all);
        List<Integer> points = new ArrayList<>();
        for (int t = 1; t <= (busy < 0 ? 600 : busy); t++) {
            if (demandOf(all, t) > demandOf(all, t - 1)) points.add(t);
        }
        return points;
    }

    int point(int i) {
        if (i < -1) return no(-4);
        List<Integer> points = pointsOf(duties);
        if (i == -1) return points.size();
        return i < points.size() ? points.get(i) : -9;
    }

    static int missOf(List<Duty> all) {
        for (int t : pointsOf(all)) {
            if (demandOf(all, t) > t) return t;
        }
        return -9;
    }

    int miss() { return missOf(duties); }

    int spare() {
        int least = 1000;
        for (int t : pointsOf(duties)) least = Math.min(least, t - demandOf(duties, t));
        return least;
    }

    // ---- orders

    static List<Integer> orderOf(List<Duty> all, int policy) {
        List<Integer> order = new ArrayList<>();
        for (int i = 0; i < all.size(); i++) {
            if (all.get(i).on) order.add(i);
        }
        order.sort((a, b) -> {
            Duty x = all.get(a);
            Duty y = all.get(b);
            int by = policy == 0 ? x.period - y.period
                    : policy == 1 ? x.limit() - y.limit() : y.rank - x.rank;
            return by != 0 ? by : a - b;
        });
        return order;
    }

    static int ceilingIn(List<Duty> all, List<Integer> order, int lock) {
        for (int i : order) {
            if (all.get(i).held[lock] >= 1) return i;
        }
        return -9;
    }

    static int blockingIn(List<Duty> all, List<Integer> order, int task) {
        int most = 0;
        int at = order.indexOf(task);
        for (int behind : order.subList(at + 1, order.size())) {
            for (int lock = 0; lock < 4; lock++) {
                int ceiling = ceilingIn(all, order, lock);
                if (ceiling >= 0 && order.indexOf(ceiling) <= at) {
                    most = Math.max(most, all.get(behind).held[lock]);
                }
            }
        }
        return most;
    }

    /** All r on the way; empty if there is no RESPONSE. */
    static List<Integer> wayIn(List<Duty> all, List<Integer> order, int task) {
        Duty own = all.get(task);
        int base = own.cost * own.asked(1) + blockingIn(all, order, task);
        List<Integer> way = new ArrayList<>();
        int r = base;
        while (r <= 600) {
            way.add(r);
            int next = base;
            for (int ahead : order.subList(0, order.indexOf(task))) {
                next += all.get(ahead).cost * all.get(ahead).asked(r);
            }
            if (next == r) return way;
            r = next;
        }
        return new ArrayList<>();
    }

    static int responseIn(List<Duty> all, List<Integer> order, int task) {
        List<Integer> way = wayIn(all, order, task);
        return way.isEmpty() ? -9 : way.get(way.size() - 1);
    }

    static boolean fitsIn(List<Duty> all, List<Integer> order, int task) {
        int r = responseIn(all, order, task);
        return r >= 0 && r + all.get(task).late() <= all.get(task).limit();
    }

    static boolean allFitIn(List<Duty> all, List<Integer> order) {
        for (int i : order) {
            if (!fitsIn(all, order, i)) return false;
        }
        return true;
    }

    boolean otherPolicy(int policy, int most) { return policy < 0 || policy > most; }

    int order(int policy, int i) {
        if (otherPolicy(policy, 2)) return no(-2);
        if (i < 0) return no(-4);
        List<Integer> order = orderOf(duties, policy);
        return i < order.size() ? order.get(i) : -9;
    }

    int ceiling(int policy, int lock) {
        if (otherPolicy(policy, 2)) return no(-2);
        if (lock < 0 || lock > 3) return no(-1);
        return ceilingIn(duties, orderOf(duties, policy), lock);
    }

    int ofTaskInOrder(int policy, int task) {
        if (otherPolicy(policy, 2)) return no(-2);
        if (nobody(task)) return no(-1);
        if (!duties.get(task).on) return no(-3);
        return 0;
    }

    int blocking(int policy, int task) {
        int r = ofTaskInOrder(policy, task);
        return r != 0 ? r : blockingIn(duties, orderOf(duties, policy), task);
    }

    int response(int policy, int task) {
        int r = ofTaskInOrder(policy, task);
        return r != 0 ? r : responseIn(duties, orderOf(duties, policy), task);
    }

    int rounds(int policy, int task) {
        int r = ofTaskInOrder(policy, task);
        if (r != 0) return r;
        int n = wayIn(duties, orderOf(duties, policy), task).size();
        return n == 0 ? -9 : n;
    }

    int fits(int policy) {
        if (otherPolicy(policy, 2)) return no(-2);
        int bits = 0;
        List<Integer> order = orderOf(duties, policy);
        for (int i : order) {
            if (fitsIn(duties, order, i)) bits += 1 << i;
        }
        return bits;
    }

    /** All orders are tried, those with the least last first. */
    List<Integer> lawfulEndingWith(List<Integer> left, List<Integer> end) {
        if (left.isEmpty()) return allFitIn(duties, end) ? end : null;
        for (int i : left) {
            List<Integer> rest = new ArrayList<>(left);
            rest.remove(Integer.valueOf(i));
            List<Integer> more = new ArrayList<>(end);
            more.add(0, i);
            List<Integer> found = lawfulEndingWith(rest, more);
            if (found != null) return found;
        }
        return null;
    }

    int lawful(int i) {
        if (i < 0) return no(-4);
        List<Integer> all = new ArrayList<>();
        for (int k = 0; k < duties.size(); k++) {
            if (duties.get(k).on) all.add(k);
        }
        List<Integer> found = lawfulEndingWith(all, new ArrayList<>());
        return found == null || i >= found.size() ? -9 : found.get(i);
    }

    // ---- runs

    final List<Job> jobs = new ArrayList<>();
    final int[] worked = new int[60];

    void play(int policy) {
        jobs.clear();
        for (int i = 0; i < duties.size(); i++) {
            Duty d = duties.get(i);
            if (!d.on) continue;
            for (int k = 0; k < 40; k++) {
                if (d.is(4) && k > d.figure) break;
                for (int twin = 0; twin < (d.is(3) ? 2 : 1); twin++) {
                    Job j = new Job();
                    j.task = i;
                    j.k = k;
                    j.there = d.offset + k * d.distance() + (k % 2 == 1 ? d.late() : 0);
                    j.due = d.offset + k * d.distance() + d.limit();
                    j.left = d.cost;
                    jobs.add(j);
                }
            }
        }
        for (int u = 0; u < 60; u++) {
            missAt(u);
            worked[u] = workAt(policy, u);
        }
        missAt(60);
    }

    void missAt(int u) {
        for (Job j : jobs) {
            if (j.there < u && !j.done && j.missedAt < 0 && j.due <= u) j.missedAt = u;
        }
    }

    int workAt(int policy, int u) {
        List<Job> there = new ArrayList<>();
        for (Job j : jobs) {
            if (j.there <= u && !j.done && j.missedAt < 0) there.add(j);
        }
        if (there.isEmpty()) return -9;
        Job one;
        if (policy == 3) {
            there.sort((a, b) -> a.due != b.due ? a.due - b.due : a.task - b.task);
            one = there.get(0);
        } else {
            List<Integer> order = orderOf(duties, policy);
            there.sort((a, b) -> a.task != b.task ? order.indexOf(a.task) - order.indexOf(b.task)
                    : a.there != b.there ? a.there - b.there : a.k - b.k);
            one = there.get(0);
        }
        one.left--;
        one.done = one.left == 0;
        return one.task;
    }

    int run(int policy, int unit) {
        if (otherPolicy(policy, 3)) return no(-2);
        if (unit < 0) return no(-4);
        if (unit > 59) return no(-6);
        play(policy);
        return worked[unit];
    }

    int jobs(int policy, int task, int what) {
        if (otherPolicy(policy, 3)) return no(-2);
        if (nobody(task)) return no(-1);
        if (what < 0 || what > 1) return no(-2);
        play(policy);
        int n = 0;
        for (Job j : jobs) {
            if (j.task == task && (what == 0 ? j.done : j.missedAt >= 0)) n++;
        }
        return n;
    }

    int first(int policy, int what) {
        if (otherPolicy(policy, 3) || what < 0 || what > 1) return no(-2);
        play(policy);
        Job first = null;
        for (Job j : jobs) {
            if (j.missedAt >= 0 && (first == null || j.missedAt < first.missedAt)) first = j;
        }
        return first == null ? -9 : what == 0 ? first.missedAt : first.task;
    }

    // ---- more

    boolean good(List<Duty> all, int policy) {
        return policy == 3 ? missOf(all) < 0 : allFitIn(all, orderOf(all, policy));
    }

    int most(int policy, int task) {
        int most = -9;
        for (int more = 0; more < 100; more++) {
            List<Duty> all = copy(duties);
            all.get(task).cost += more;
            if (good(all, policy)) most = more;
            else if (more == 0) return -9;
        }
        return most;
    }

    int slack(int task) {
        if (nobody(task)) return no(-1);
        if (!duties.get(task).on) return no(-3);
        return most(3, task);
    }

    int slackBy(int policy, int task) {
        int r = ofTaskInOrder(policy, task);
        return r != 0 ? r : most(policy, task);
    }

    static long partOf(BigInteger above, BigInteger below, int part) {
        BigInteger g = above.gcd(below);
        return (part == 0 ? above : below).divide(g).longValueExact();
    }

    long load(int part) {
        if (part < 0 || part > 1) return LONGS - no(-2);
        BigInteger above = BigInteger.ZERO;
        BigInteger below = BigInteger.ONE;
        for (Duty d : duties) {
            if (!d.on) continue;
            BigInteger apart = BigInteger.valueOf(d.distance());
            above = above.multiply(apart).add(below.multiply(BigInteger.valueOf(d.cost)));
            below = below.multiply(apart);
        }
        return partOf(above, below, part);
    }

    int anew() {
        BigInteger all = BigInteger.ONE;
        for (Duty d : duties) {
            if (!d.on) continue;
            BigInteger apart = BigInteger.valueOf(d.distance());
            all = all.divide(all.gcd(apart)).multiply(apart);
        }
        return all.bitLength() > 31 ? -9 : all.intValueExact();
    }

    long missing(int t, int part) {
        if (t < 2) return LONGS - no(-4);
        if (t > 20) return LONGS - no(-6);
        if (part < 0 || part > 1) return LONGS - no(-2);
        BigInteger ways = waysFrom(copy(duties), 0, t);
        BigInteger all = BigInteger.ONE;
        for (int i = 0; i < 5 && i < duties.size(); i++) {
            if (duties.get(i).on) all = all.multiply(BigInteger.valueOf(t));
        }
        return partOf(ways, all, part);
    }

    BigInteger waysFrom(List<Duty> all, int i, int t) {
        if (i == 5 || i >= all.size()) return missOf(all) < 0 ? BigInteger.ONE : BigInteger.ZERO;
        Duty d = all.get(i);
        if (!d.on) return waysFrom(all, i + 1, t);
        BigInteger with = waysFrom(all, i + 1, t).multiply(BigInteger.valueOf(t - 1));
        d.on = false;
        BigInteger without = waysFrom(all, i + 1, t);
        d.on = true;
        return with.add(without);
    }

    boolean soByRow(List<Duty> all) {
        List<Integer> points = pointsOf(all);
        return points.size() >= row.size() && points.subList(0, row.size()).equals(row);
    }

    int whatIs(int task, int what) {
        if (nobody(task)) return no(-1);
        if (what < 0 || what > 1) return no(-2);
        int bits = 0;
        for (int v = 0; v < (what == 0 ? 6 : 10); v++) {
            List<Duty> all = copy(duties);
            if (what == 0) all.get(task).kind = v;
            else all.get(task).figure = v;
            if (soByRow(all)) bits += 1 << v;
        }
        return bits;
    }

    int row(int v) {
        if (v < 0) return no(-4);
        if (v > 99 || row.size() == 8) return no(-6);
        row.add(v);
        return row.size();
    }

    int judge(int policy) {
        if (otherPolicy(policy, 2)) return no(-2);
        List<Integer> due = new ArrayList<>();
        List<Integer> order = orderOf(duties, policy);
        for (int i = 0; i < duties.size(); i++) {
            due.add(duties.get(i).on ? Math.max(0, responseIn(duties, order, i)) : 0);
        }
        List<Integer> told = new ArrayList<>(row);
        row.clear();
        for (int i = 0; i < 9; i++) {
            if (i >= due.size() && i >= told.size()) return -9;
            if (i >= due.size() || i >= told.size() || !due.get(i).equals(told.get(i))) return i;
        }
        return -9;
    }

    int clear() {
        int had = row.size();
        row.clear();
        return had;
    }

    int lots(int n, int z, int what) {
        if (n < 1) return no(-4);
        if (n > 20) return no(-6);
        if (what < 0 || what > 1) return no(-2);
        int good = 0;
        int seed = z;
        for (int k = 0; k < n; k++) {
            List<Duty> all = copy(duties);
            for (Duty d : all) {
                seed = seed * 1664525 + 1013904223;
                d.cost = (seed & 0x7fffffff) / 256 % 9 + 1;
            }
            if (good(all, what == 0 ? 3 : 1)) good++;
        }
        return good;
    }

    int image() {
        kept = copy(duties);
        return kept.size();
    }

    int on() {
        if (kept == null) return no(-3);
        duties = copy(kept);
        return duties.size();
    }

    int count(int what) {
        int bits = 0;
        int costs = 0;
        for (int i = 0; i < duties.size(); i++) {
            if (duties.get(i).on) {
                bits += 1 << i;
                costs += duties.get(i).cost;
            }
        }
        if (what == 0) return duties.size();
        if (what == 1) return bits;
        if (what == 2) return costs;
        if (what == 3) return row.size();
        if (what == 4) return text.length();
        if (what >= 11 && what <= 16) return refused[what - 10];
        return -9;
    }
}
