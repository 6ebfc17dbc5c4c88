/** Long runs of calls, drawn by a fixed sequence, answered by the program and by the model. */
public final class ModelTest {
    private static final int RUNS = 600;
    private static final int CALLS = 512;
    private static final int MOST_TOLD = 20;

    private final int run;
    private final DutiesProved real = new DutiesProved();
    private final Model model = new Model();
    private final StringBuilder calls = new StringBuilder();
    private long state;
    private int made = 0;
    private int wrong = 0;

    private ModelTest(int run) {
        this.run = run;
        this.state = run * 7919L + 17;
    }

    public static void main(String[] args) {
        int wrong = 0;
        int runs = args.length > 0 ? Integer.parseInt(args[0]) : RUNS;
        for (int run = 0; run < runs && wrong < MOST_TOLD; run++) {
            wrong += new ModelTest(run).go();
        }
        System.out.println(wrong == 0 ? "all runs are as the model's" : wrong + " runs differ");
        if (wrong != 0) System.exit(1);
    }

    private int go() {
        int light = below(4);
        while (made < CALLS && wrong == 0) {
            int what = below(100);
            if (what < 22) change(light);
            else if (what < 26) tell();
            else ask(below(28));
        }
        return wrong;
    }

    private int below(int bound) {
        state = state * 6364136223846793005L + 1442695040888963407L;
        return (int) ((state >>> 33) % bound);
    }

    /** Mostly least .. most, at times a little or far outside. */
    private int near(int least, int most) {
        int odd = below(40);
        if (odd == 0) return least - 1;
        if (odd == 1) return most + 1;
        if (odd == 2) return below(2) == 0 ? Integer.MIN_VALUE : Integer.MAX_VALUE;
        if (odd == 3) return least;
        if (odd == 4) return most;
        return least + below(most - least + 1);
    }

    private int aTask() {
        int n = Math.max(1, model.duties.size());
        return below(15) == 0 ? near(0, 5) : below(n);
    }

    private void same(String call, long got, long due) {
        calls.append(call).append(" = ").append(due).append('\n');
        made++;
        if (got != due) {
            wrong++;
            System.out.println("run " + run + ", call " + made + ": " + call + " answered " + got
                    + ", the model " + due + "; all calls:\n" + calls);
        }
    }

    private void change(int light) {
        int i = aTask();
        switch (below(13)) {
            case 0:
            case 1: {
                int c = light < 2 ? 1 + below(4) : near(1, 20);
                int p = light < 2 ? 20 + below(41) : near(2, 60);
                int d = light == 0 ? 25 + below(36) : near(1, 60);
                same("tasks(" + c + "," + p + "," + d + ")", real.tasks(c, p, d), model.tasks(c, p, d));
                return;
            }
            case 2:
                same("turns(" + i + ")", real.turns(i), model.turns(i));
                return;
            case 3: {
                int v = below(2) == 0 ? below(9) : near(0, 59);
                same("offset(" + i + "," + v + ")", real.offset(i, v), model.offset(i, v));
                return;
            }
            case 4: {
                int v = below(2) == 0 ? below(3) : near(0, 9);
                same("rank(" + i + "," + v + ")", real.rank(i, v), model.rank(i, v));
                return;
            }
            case 5: {
                int v = light < 2 ? 1 + below(5) : near(1, 20);
                same("cost(" + i + "," + v + ")", real.cost(i, v), model.cost(i, v));
                return;
            }
            case 6:
            case 7: {
                int k = near(0, 5);
                int f = near(0, 9);
                same("kind(" + i + "," + k + "," + f + ")", real.kind(i, k, f), model.kind(i, k, f));
                return;
            }
            case 8:
            case 9: {
                int l = near(0, 3);
                int v = near(0, 9);
                same("holds(" + i + "," + l + "," + v + ")", real.holds(i, l, v), model.holds(i, l, v));
                return;
            }
            case 10:
                same("image()", real.image(), model.image());
                return;
            case 11:
                if (below(3) == 0) same("on()", real.on(), model.on());
                return;
            default:
                tellRow();
        }
    }

    private void tellRow() {
        if (below(6) == 0) {
            same("clear()", real.clear(), model.clear());
            return;
        }
        int told = near(0, 99);
        int length = model.row.size();
        int odd = below(4);
        if (odd == 0) told = Model.pointsOf(model.duties).stream().skip(length).findFirst().orElse(5);
        if (odd == 1 && length < model.duties.size() && model.duties.get(length).on) {
            told = Model.responseIn(model.duties, Model.orderOf(model.duties, 1), length);
        }
        same("row(" + told + ")", real.row(told), model.row(told));
    }

    private void tellRowOfResponses(int policy) {
        same("clear()", real.clear(), model.clear());
        int many = Math.min(8, Math.max(0, model.duties.size() + below(8) / 7 - below(8) / 7));
        for (int i = 0; i < many; i++) {
            boolean on = i < model.duties.size() && model.duties.get(i).on;
            int r = on ? Model.responseIn(model.duties, Model.orderOf(model.duties, policy), i) : 0;
            int told = Math.max(0, r) + (below(30) == 0 ? 1 : 0);
            same("row(" + told + ")", real.row(told), model.row(told));
        }
    }

    /** The points that there would be if the task were of another kind or figure. */
    private void tellRowOfPoints(int task) {
        java.util.List<Model.Duty> all = Model.copy(model.duties);
        if (task >= 0 && task < all.size()) {
            if (below(2) == 0) all.get(task).kind = below(6);
            else all.get(task).figure = below(10);
        }
        same("clear()", real.clear(), model.clear());
        int many = 1 + below(4);
        for (int told : Model.pointsOf(all)) {
            if (many-- > 0) same("row(" + told + ")", real.row(told), model.row(told));
        }
    }

    private String number(int most) {
        int odd = below(60);
        if (odd == 0) return "";
        if (odd == 1) return "100";
        if (odd == 2) return String.valueOf(most + 1);
        if (odd == 3) return "0" + below(10);
        return String.valueOf(below(most + 1));
    }

    private String taskNumber() {
        return below(10) > 0 && model.duties.size() > 0
                ? String.valueOf(below(model.duties.size())) : number(5);
    }

    private String statement() {
        switch (below(7)) {
            case 0:
                return "t" + number(20) + "," + number(60) + "," + number(60) + ";";
            case 1:
                return "o" + taskNumber() + "=" + number(59) + ";";
            case 2:
                return "r" + taskNumber() + "=" + number(9) + ";";
            case 3:
                return "k" + taskNumber() + "=" + number(5) + "," + number(9) + ";";
            case 4:
                return "h" + taskNumber() + "," + number(3) + "=" + number(9) + ";";
            case 5:
                return "x" + taskNumber() + ";";
            default:
                return "t" + (1 + below(6)) + "," + (8 + below(53)) + "," + (8 + below(53)) + ";";
        }
    }

    private void tell() {
        StringBuilder text = new StringBuilder();
        int many = below(6) == 0 ? 14 : below(5);
        for (int i = 0; i < many; i++) text.append(statement());
        if (below(6) == 0 && text.length() > 0) {
            int at = below(text.length());
            int odd = below(3);
            if (odd == 0) text.deleteCharAt(at);
            if (odd == 1) text.setCharAt(at, "torkhx0=,; \n".charAt(below(12)));
            if (odd == 2) text.setLength(at);
        }
        for (int i = 0; i < text.length(); i++) letter(text.charAt(i));
        if (below(20) == 0) letter(near(0, 255));
        same("tells()", real.tells(), model.tells());
    }

    private void letter(int c) {
        same("letter(" + c + ")", real.letter(c), model.letter(c));
    }

    private void ask(int which) {
        int policy = near(0, 2);
        int i = aTask();
        int what = near(0, 1);
        if (which < 10) askOfDemands(which, i);
        else if (which < 18) askOfOrders(which, policy, i);
        else if (which < 22) askOfRuns(which, below(4) == 0 ? 3 : policy, i, what);
        else askMore(which, policy, i, what);
    }

    private void askOfDemands(int which, int i) {
        int t = below(2) == 0 ? below(70) : near(0, 600);
        switch (which) {
            case 0: {
                int w = near(0, 10);
                same("task(" + i + "," + w + ")", real.task(i, w), model.task(i, w));
                return;
            }
            case 1:
                same("asked(" + i + "," + t + ")", real.asked(i, t), model.asked(i, t));
                return;
            case 2:
                same("owed(" + i + "," + t + ")", real.owed(i, t), model.owed(i, t));
                return;
            case 3:
                same("demand(" + t + ")", real.demand(t), model.demand(t));
                return;
            case 4:
                same("busy()", real.busy(), model.busy());
                return;
            case 5:
            case 6: {
                int p = below(3) == 0 ? -1 : near(-1, 60);
                same("point(" + p + ")", real.point(p), model.point(p));
                return;
            }
            case 7:
                same("miss()", real.miss(), model.miss());
                return;
            case 8:
                same("spare()", real.spare(), model.spare());
                return;
            default: {
                int w = below(3) == 0 ? near(-1, 17) : below(2) == 0 ? below(5) : 11 + below(6);
                same("count(" + w + ")", real.count(w), model.count(w));
            }
        }
    }

    private void askOfOrders(int which, int policy, int i) {
        String at = "(" + policy + "," + i + ")";
        switch (which) {
            case 10:
                same("order" + at, real.order(policy, i), model.order(policy, i));
                return;
            case 11: {
                int lock = near(0, 3);
                same("ceiling(" + policy + "," + lock + ")",
                        real.ceiling(policy, lock), model.ceiling(policy, lock));
                return;
            }
            case 12:
                same("blocking" + at, real.blocking(policy, i), model.blocking(policy, i));
                return;
            case 13:
                same("response" + at, real.response(policy, i), model.response(policy, i));
                return;
            case 14:
                same("rounds" + at, real.rounds(policy, i), model.rounds(policy, i));
                return;
            case 15:
                same("fits(" + policy + ")", real.fits(policy), model.fits(policy));
                return;
            default: {
                int p = near(0, 6);
                same("lawful(" + p + ")", real.lawful(p), model.lawful(p));
            }
        }
    }

    private void askOfRuns(int which, int policy, int i, int what) {
        switch (which) {
            case 18:
            case 19: {
                int u = near(0, 59);
                same("run(" + policy + "," + u + ")", real.run(policy, u), model.run(policy, u));
                return;
            }
            case 20:
                same("jobs(" + policy + "," + i + "," + what + ")",
                        real.jobs(policy, i, what), model.jobs(policy, i, what));
                return;
            default:
                same("first(" + policy + "," + what + ")",
                        real.first(policy, what), model.first(policy, what));
        }
    }

    private void askMore(int which, int policy, int i, int what) {
        switch (which) {
            case 22:
                if (below(2) == 0) same("slack(" + i + ")", real.slack(i), model.slack(i));
                else same("slackBy(" + policy + "," + i + ")",
                        real.slackBy(policy, i), model.slackBy(policy, i));
                return;
            case 23:
                same("load(" + what + ")", real.load(what), model.load(what));
                same("anew()", real.anew(), model.anew());
                return;
            case 24: {
                int t = near(2, 20);
                same("missing(" + t + "," + what + ")", real.missing(t, what), model.missing(t, what));
                return;
            }
            case 25:
                if (below(3) > 0) tellRowOfPoints(i);
                same("whatIs(" + i + "," + what + ")", real.whatIs(i, what), model.whatIs(i, what));
                return;
            case 26:
                if (below(2) == 0 && policy >= 0 && policy < 3) tellRowOfResponses(policy);
                same("judge(" + policy + ")", real.judge(policy), model.judge(policy));
                return;
            default: {
                int n = near(1, 20);
                int z = below(3) == 0 ? below(100) - 50 : (int) (state >>> 20);
                same("lots(" + n + "," + z + "," + what + ")",
                        real.lots(n, z, what), model.lots(n, z, what));
            }
        }
    }
}
