/** Promises 2 and 3: letters, and the TASKS that they tell. */
final class LetterEdges {
    private static final String[] FORMS = {"t#,#,#;", "o#=#;", "r#=#;", "k#=#,#;", "h#,#=#;", "x#;"};
    /** For each number of each form the least and the greatest, when there are two tasks. */
    private static final int[][] NUMBERS = {{1, 20, 2, 60, 1, 60}, {0, 1, 0, 59}, {0, 1, 0, 9},
        {0, 1, 0, 5, 0, 9}, {0, 1, 0, 3, 0, 9}, {0, 1}};
    private static final String TWO = "t1,2,1;t1,2,1;";

    private LetterEdges() {
    }

    static void all() {
        aLetter();
        noRoomForLetters();
        nothingTold();
        numbersOfOneOrTwoDigits();
        otherMarks();
        somethingLacks();
        greatestPlaces();
        kindOneGoesFirst();
        behindAllAheadOfIt();
        numbersThatCantBe();
        noRoomForTasks();
        theFirstOfSeveral();
        allComesOrNothing();
        allThatIsTold();
        lettersAreNoMore();
        onOrNot();
    }

    private static String fill(String form, String[] numbers) {
        StringBuilder text = new StringBuilder();
        int n = 0;
        for (char c : form.toCharArray()) {
            if (c == '#') text.append(numbers[n++]);
            else text.append(c);
        }
        return text.toString();
    }

    private static String[] leastOf(int form) {
        String[] least = new String[NUMBERS[form].length / 2];
        for (int i = 0; i < least.length; i++) least[i] = String.valueOf(NUMBERS[form][2 * i]);
        return least;
    }

    private static void dueOnTwo(String text, int want) {
        DutiesProved x = Sentence.of(TWO);
        Sentence.due("tells " + text, Sentence.told(x, text), want);
        Sentence.due("letters behind " + text, x.count(4), 0);
    }

    private static void aLetter() {
        Sentence.says(2, "A letter (0 .. 255) comes: how many there are. -4; -6 (255; 96, too).");
        DutiesProved x = new DutiesProved();
        Sentence.due("letter(-1)", x.letter(-1), -4);
        Sentence.due("letter(256)", x.letter(256), -6);
        Sentence.due("letter(LOW)", x.letter(Sentence.LOW), -4);
        Sentence.due("letter(HIGH)", x.letter(Sentence.HIGH), -6);
        Sentence.due("none yet", x.count(4), 0);
        Sentence.due("letter(0)", x.letter(0), 1);
        Sentence.due("letter(255)", x.letter(255), 2);
        Sentence.due("two", x.count(4), 2);
    }

    private static void noRoomForLetters() {
        Sentence.says(2, "TASKS are told in letters (96 at most)");
        DutiesProved x = new DutiesProved();
        for (int i = 1; i <= 96; i++) Sentence.due("letter " + i, x.letter(i % 2 * 255), i);
        Sentence.due("the 97th", x.letter(0), -6);
        Sentence.due("the 97th, below", x.letter(-1), -4);
        Sentence.due("the 97th, above", x.letter(256), -6);
        Sentence.due("96 stay", x.count(4), 96);
        Sentence.due("tells", x.tells(), -1000);
        Sentence.due("room again", x.letter('t'), 1);
    }

    private static void nothingTold() {
        Sentence.says(3, "At least one STATEMENT.");
        DutiesProved x = new DutiesProved();
        Sentence.due("no letters", x.tells(), -1000);
        Sentence.due("one STATEMENT", Sentence.told(x, "t1,2,1;"), 1);
        Sentence.due("no letters again", x.tells(), -1000);
        Sentence.due("a ';' alone", Sentence.told(x, ";"), -1000);
    }

    private static void numbersOfOneOrTwoDigits() {
        Sentence.says(3, "numbers of one or two digits");
        for (int form = 0; form < FORMS.length; form++) {
            for (int i = 0; i < NUMBERS[form].length / 2; i++) {
                String[] numbers = leastOf(form);
                String least = numbers[i];
                int place = FORMS[form].length();
                for (int k = 0, seen = 0; k < FORMS[form].length(); k++) {
                    if (FORMS[form].charAt(k) == '#' && seen++ == i) place = k;
                }
                numbers[i] = "0" + least;
                dueOnTwo(fill(FORMS[form], numbers), 1);
                numbers[i] = "00" + least;
                dueOnTwo(fill(FORMS[form], numbers), -1000 - (place + 2));
                numbers[i] = "";
                dueOnTwo(fill(FORMS[form], numbers), -1000 - place);
            }
        }
    }

    private static void otherMarks() {
        Sentence.says(3, "kind 1 the place of the first letter with which no TASKS can go on");
        for (int form = 0; form < FORMS.length; form++) {
            String text = fill(FORMS[form], leastOf(form));
            for (int place = 0; place < text.length(); place++) {
                char right = text.charAt(place);
                if (Character.isDigit(right)) continue;
                for (int c = 0; c <= 255; c++) {
                    boolean goesOn = c == right || c >= '0' && c <= '9' && place > 0
                            || place == 0 && "torkhx".indexOf(c) >= 0;
                    if (!goesOn) {
                        dueOnTwo(text.substring(0, place) + (char) c + text.substring(place + 1), -1000 - place);
                    }
                }
            }
        }
        dueOnTwo("0", -1000);
        dueOnTwo("x0;0", -1003);
    }

    private static void somethingLacks() {
        Sentence.says(3, "(the end, if something lacks): -1000 less the place");
        String text = "t2,10,8;o0=15;r0=1;k0=3,2;h0,1=4;x0;";
        int statements = 0;
        for (int length = 1; length <= text.length(); length++) {
            boolean whole = text.charAt(length - 1) == ';';
            if (whole) statements++;
            DutiesProved x = new DutiesProved();
            int due = whole ? statements : -1000 - length;
            Sentence.due("the first " + length + " letters", Sentence.told(x, text.substring(0, length)), due);
        }
    }

    private static void greatestPlaces() {
        Sentence.says(3, "(96 at most): STATEMENTS, each with \";\" behind");
        DutiesProved x = Sentence.of("t1,2,1;");
        Sentence.due("32 STATEMENTS in 96 letters", Sentence.told(x, "x0;".repeat(32)), 32);
        Sentence.due("ON behind an even number", x.count(1), 1);
        Sentence.due("96 letters, something lacks", Sentence.told(x, "x0;".repeat(31) + "x00"), -1096);
        Sentence.due("96 letters, a bad one", Sentence.told(x, "x0;".repeat(31) + "x00."), -1096);
        Sentence.due("the last is bad", Sentence.told(x, "x0;".repeat(31) + "x01"), -1096);
        Sentence.due("the last letter is bad", Sentence.told(x, "x0;".repeat(31) + "x0,"), -1095);
        Sentence.due("the last STATEMENT can't be", Sentence.told(x, "x0;".repeat(31) + "x1;"), -2093);
        Sentence.due("the 97th letter is none", Sentence.told(x, "x0;".repeat(32) + "z"), 32);
    }

    private static void kindOneGoesFirst() {
        Sentence.says(3, "else kind 2 the place of the first letter of the first STATEMENT");
        dueOnTwo("x9;z", -1003);
        dueOnTwo("x9;x", -1004);
        dueOnTwo("x9", -1002);
        dueOnTwo("t99,99,99;o9=99;t", -1017);
        dueOnTwo("x9;", -2000);
    }

    private static void behindAllAheadOfIt() {
        Sentence.says(3, "that, behind all ahead of it in the text, is not as it must be");
        Sentence.due("a TASK told ahead", Sentence.told(new DutiesProved(), "t1,2,1;x0;"), 2);
        Sentence.due("a TASK told behind", Sentence.told(new DutiesProved(), "x0;t1,2,1;"), -2000);
        Sentence.due("not the next one", Sentence.told(new DutiesProved(), "t1,2,1;x1;t1,2,1;"), -2007);
        Sentence.due("told behind, two", Sentence.told(new DutiesProved(), "t1,2,1;t1,2,1;o2=0;t1,2,1;"), -2014);
    }

    private static void numbersThatCantBe() {
        Sentence.says(3, "(no such TASK, LOCK, KIND; a number that can't be; no room): -2000 less the place");
        for (int form = 0; form < FORMS.length; form++) {
            for (int i = 0; i < NUMBERS[form].length / 2; i++) {
                String[] numbers = leastOf(form);
                int least = NUMBERS[form][2 * i];
                int most = NUMBERS[form][2 * i + 1];
                for (int v : new int[] {least - 1, least, most, most + 1, 99}) {
                    if (v < 0) continue;
                    numbers[i] = String.valueOf(v);
                    dueOnTwo(fill(FORMS[form], numbers), v >= least && v <= most ? 1 : -2000);
                }
            }
        }
    }

    private static void noRoomForTasks() {
        Sentence.says(3, "(6 at most)");
        String one = "t1,2,1;";
        for (int there = 0; there <= 6; there++) {
            for (int more = 1; more <= 7; more++) {
                DutiesProved x = new DutiesProved();
                for (int i = 0; i < there; i++) x.tasks(1, 2, 1);
                boolean fits = there + more <= 6;
                int due = fits ? more : -2000 - (6 - there) * one.length();
                Sentence.due(more + " to " + there, Sentence.told(x, one.repeat(more)), due);
                Sentence.due(more + " to " + there + ": TASKS", x.count(0), fits ? there + more : there);
            }
        }
    }

    private static void theFirstOfSeveral() {
        Sentence.says(3, "the first letter of the first STATEMENT");
        dueOnTwo("x0;x7;x8;", -2003);
        dueOnTwo("x0;x1;k0=6,0;t0,2,1;", -2006);
        dueOnTwo("t20,60,60;o2=59;o2=60;o3=0;", -2016);
    }

    private static void allComesOrNothing() {
        Sentence.says(3, "Without FAULT all of it comes, with one nothing.");
        String good = "t3,30,20;o0=9;r1=8;k0=4,7;h1,3=6;x1;o2=1;";
        for (String fault : new String[] {"x3;", "z", "x", "t1,2,61;", "h0,4=1;", "k0=0,10;", "r0=10;", "o2=60;"}) {
            DutiesProved x = Sentence.of("t2,10,8;t4,20,20;k1=5,3;h0,2=1;");
            DutiesProved same = Sentence.of("t2,10,8;t4,20,20;k1=5,3;h0,2=1;");
            Sentence.due("a FAULT behind good ones: " + fault, Sentence.told(x, good + fault) < 0 ? 1 : 0, 1);
            Twins.same("nothing comes of " + fault, same, x, 0);
        }
        DutiesProved y = Sentence.of("t2,10,8;t4,20,20;k1=5,3;h0,2=1;");
        Sentence.due("without", Sentence.told(y, good), 7);
        Sentence.due("TASKS", y.count(0), 3);
        Sentence.due("ON", y.count(1), 5);
        Sentence.due("OFFSET", y.task(0, 3), 9);
        Sentence.due("OFFSET of the new one", y.task(2, 3), 1);
        Sentence.due("RANK", y.task(1, 4), 8);
        Sentence.due("KIND, FIGURE", y.kind(0, 0, 0), 47);
        Sentence.due("HOLDS", y.holds(1, 3, 0), 6);
    }

    private static void allThatIsTold() {
        Sentence.says(3, "\"t\" COST \",\" PERIOD \",\" DEADLINE: a TASK more; \"o\" a TASK \"=\" OFFSET;");
        DutiesProved x = Sentence.of("t20,60,60;t1,2,1;o0=59;r0=9;k0=5,9;h0,0=9;h0,3=9;h1,3=9;k1=0,0;");
        int[][] traits = {{20, 60, 60, 59, 9, 5, 9, 1, 60, 0, 51}, {1, 2, 1, 0, 0, 0, 0, 1, 2, 0, 1}};
        for (int task = 0; task < 2; task++) {
            for (int what = 0; what <= 10; what++) {
                Sentence.due("task(" + task + ", " + what + ")", x.task(task, what), traits[task][what]);
            }
        }
        int[] held = {9, 0, 0, 9};
        for (int lock = 0; lock < 4; lock++) Sentence.due("HOLDS " + lock, x.holds(0, lock, 0), held[lock]);
        Sentence.due("the other HOLDS", x.holds(1, 3, 0), 9);
        Sentence.due("all back", Sentence.told(x, "o0=0;r0=0;k0=0,0;"), 3);
        for (int what = 3; what <= 6; what++) Sentence.due("0 again, " + what, x.task(0, what), 0);
    }

    private static void lettersAreNoMore() {
        Sentence.says(3, "are no more (with a FAULT neither): how many STATEMENTS; the FAULT (nothing is counted)");
        DutiesProved x = Sentence.of("t1,2,1;");
        for (String text : new String[] {"x0;", "z", "x9;", "x", "t1,2,1;".repeat(6), "x0;".repeat(32)}) {
            Sentence.tell(x, text);
            Sentence.due("letters", x.count(4), text.length());
            x.tells();
            Sentence.due("letters behind", x.count(4), 0);
        }
        for (int what = 11; what <= 16; what++) Sentence.due("count(" + what + ")", x.count(what), 0);
    }

    private static void onOrNot() {
        Sentence.says(3, "\"x\" a TASK: ON, or, if it was, not.");
        DutiesProved x = Sentence.of(TWO);
        Sentence.due("x1", Sentence.told(x, "x1;"), 1);
        Sentence.due("not", x.task(1, 7), 0);
        Sentence.due("the other one is", x.task(0, 7), 1);
        Sentence.due("x1 thrice", Sentence.told(x, "x1;x1;x1;"), 3);
        Sentence.due("ON", x.task(1, 7), 1);
    }
}
