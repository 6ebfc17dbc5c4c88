import java.io.IOException;
import java.nio.charset.StandardCharsets;
import java.nio.file.Files;
import java.nio.file.Path;

/** What the edge tests share: which sentence of the document a test is of, and what is due there. */
final class Sentence {
    static final long LONGS = 4000000000000000000L;
    static final int LOW = Integer.MIN_VALUE;
    static final int HIGH = Integer.MAX_VALUE;
    static final int PROMISES = 41;

    private static final String DOCUMENT = document();
    private static final boolean[] TESTED = new boolean[PROMISES + 1];
    private static String words = "";
    private static int looked = 0;
    private static int wrong = 0;

    private Sentence() {
    }

    private static String document() {
        try {
            return Files.readString(Path.of("../shared/DOC.md"), StandardCharsets.UTF_8).replaceAll("\\s+", " ");
        } catch (IOException e) {
            throw new IllegalStateException("the document isn't at ../shared/DOC.md", e);
        }
    }

    /** The looks that follow are of these words of the document, which the promise goes by. */
    static void says(int promise, String itsWords) {
        words = "promise " + promise + " (" + itsWords + ")";
        TESTED[promise] = true;
        if (!DOCUMENT.contains(itsWords)) {
            wrong++;
            System.out.println(words + ": the document has no such words");
        }
    }

    static void due(String what, long got, long want) {
        looked++;
        if (got != want) {
            wrong++;
            System.out.println(words + ": " + what + " answered " + got + ", due is " + want);
        }
    }

    /** Ends the program: with 1 if an answer was not as due, or a promise has no test. */
    static void end() {
        for (int promise = 1; promise <= PROMISES; promise++) {
            if (!TESTED[promise]) {
                wrong++;
                System.out.println("promise " + promise + " has no test of its edges");
            }
        }
        System.out.println(looked + " answers at edges looked at, " + wrong + " not as due");
        if (wrong != 0) System.exit(1);
    }

    static void tell(DutiesProved x, String text) {
        for (int i = 0; i < text.length(); i++) x.letter(text.charAt(i));
    }

    static int told(DutiesProved x, String text) {
        tell(x, text);
        return x.tells();
    }

    static DutiesProved of(String text) {
        DutiesProved x = new DutiesProved();
        int statements = (int) text.chars().filter(c -> c == ';').count();
        if (text.length() > 96) throw new IllegalArgumentException("too long to tell: " + text);
        due("tells " + text, told(x, text), statements);
        return x;
    }

    /** Tasks of COST, PERIOD, DEADLINE, KIND and FIGURE. */
    static DutiesProved made(int[]... tasks) {
        DutiesProved x = new DutiesProved();
        for (int[] t : tasks) {
            int task = x.tasks(t[0], t[1], t[2]);
            if (t.length > 3) x.kind(task, t[3], t[4]);
        }
        due("tasks made", x.count(0), tasks.length);
        return x;
    }

    static int[] task(int... figures) {
        return figures;
    }

    static int[][] times(int many, int[] task) {
        int[][] all = new int[many][];
        for (int i = 0; i < many; i++) all[i] = task;
        return all;
    }
}
