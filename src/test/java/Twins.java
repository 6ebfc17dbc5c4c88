/** Two objects that should be alike, looked at whole; they are of no more use then. */
final class Twins {
    private Twins() {
    }

    /** The second was refused once (refusal -1 .. -6) where the first wasn't; 0: as the first. */
    static void same(String what, DutiesProved one, DutiesProved other, int refusal) {
        for (int n = 11; n <= 16; n++) {
            int more = n == 10 - refusal ? 1 : 0;
            Sentence.due(what + ", count(" + n + ")", other.count(n), one.count(n) + more);
        }
        for (int n = 0; n <= 4; n++) Sentence.due(what + ", count(" + n + ")", other.count(n), one.count(n));
        sameTasks(what, one, other);
        Sentence.due(what + ", JUDGED", other.judge(0), one.judge(0));
        Sentence.due(what + ", tells", other.tells(), one.tells());
        sameTasks(what + ", told", one, other);
        Sentence.due(what + ", on", other.on(), one.on());
        sameTasks(what + ", on", one, other);
    }

    private static void sameTasks(String what, DutiesProved one, DutiesProved other) {
        int tasks = one.count(0);
        Sentence.due(what + ", TASKS", other.count(0), tasks);
        for (int task = 0; task < tasks; task++) {
            for (int trait = 0; trait <= 7; trait++) {
                Sentence.due(what + ", task(" + task + ", " + trait + ")",
                        other.task(task, trait), one.task(task, trait));
            }
            for (int lock = 0; lock < 4; lock++) {
                int held = one.holds(task, lock, 0);
                Sentence.due(what + ", holds(" + task + ", " + lock + ")", other.holds(task, lock, 0), held);
                if (held != 0) {
                    one.holds(task, lock, held);
                    other.holds(task, lock, held);
                }
            }
        }
    }
}
