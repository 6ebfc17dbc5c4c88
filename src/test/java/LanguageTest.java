import java.lang.reflect.Array;
import java.lang.reflect.Constructor;
import java.lang.reflect.Field;
import java.lang.reflect.Method;
import java.lang.reflect.Modifier;
import java.nio.charset.StandardCharsets;
import java.nio.file.Files;
import java.nio.file.Path;
import java.util.ArrayDeque;
import java.util.ArrayList;
import java.util.Arrays;
import java.util.IdentityHashMap;
import java.util.List;
import java.util.TreeSet;
import java.util.regex.Matcher;
import java.util.regex.Pattern;

/** The face as the document tells it, and the rules of the language that reading the file shows. */
public final class LanguageTest {
    private static final String[] FACE = {
        "int letter(int)", "int tells()", "int tasks(int,int,int)", "int turns(int)",
        "int offset(int,int)", "int rank(int,int)", "int cost(int,int)", "int kind(int,int,int)",
        "int holds(int,int,int)", "int task(int,int)", "int asked(int,int)", "int owed(int,int)",
        "int demand(int)", "int busy()", "int point(int)", "int miss()", "int spare()",
        "int order(int,int)", "int ceiling(int,int)", "int blocking(int,int)",
        "int response(int,int)", "int rounds(int,int)", "int fits(int)", "int lawful(int)",
        "int run(int,int)", "int jobs(int,int,int)", "int first(int,int)", "int slack(int)",
        "int slackBy(int,int)", "long load(int)", "int anew()", "long missing(int,int)",
        "int whatIs(int,int)", "int row(int)", "int judge(int)", "int clear()",
        "int lots(int,int,int)", "int image()", "int on()", "int count(int)"};
    private static final int MOST_OBJECTS = 100;
    private static final int MOST_ELEMENTS = 2500;
    private static int wrong = 0;

    private static void must(boolean so, String what) {
        if (!so) {
            wrong++;
            System.out.println("not so: " + what);
        }
    }

    public static void main(String[] args) throws Exception {
        face();
        classes();
        room();
        text(Files.readString(Path.of("src/main/java/DutiesProved.java"), StandardCharsets.ISO_8859_1));
        System.out.println(wrong == 0 ? "the face and the language are as told" : wrong + " are not");
        if (wrong != 0) System.exit(1);
    }

    private static void face() {
        Class<?> c = DutiesProved.class;
        must(Modifier.isPublic(c.getModifiers()) && Modifier.isFinal(c.getModifiers()), "public final");
        TreeSet<String> told = new TreeSet<>(Arrays.asList(FACE));
        TreeSet<String> seen = new TreeSet<>();
        TreeSet<String> names = new TreeSet<>();
        for (String f : FACE) names.add(f.substring(f.indexOf(' ') + 1, f.indexOf('(')));
        for (Method m : c.getDeclaredMethods()) {
            if (Modifier.isPrivate(m.getModifiers())) {
                must(!names.contains(m.getName()), "no private method bears a public name: " + m);
                continue;
            }
            List<String> types = new ArrayList<>();
            for (Class<?> t : m.getParameterTypes()) types.add(t.getName());
            must(Modifier.isPublic(m.getModifiers()), "public: " + m);
            seen.add(m.getReturnType().getName() + " " + m.getName() + "(" + String.join(",", types) + ")");
        }
        must(told.equals(seen), "the methods of the face: " + seen);
        for (Field f : c.getDeclaredFields()) must(Modifier.isPrivate(f.getModifiers()), "private: " + f);
        Constructor<?>[] constructors = c.getDeclaredConstructors();
        must(constructors.length == 1 && constructors[0].getParameterCount() == 0
                && Modifier.isPublic(constructors[0].getModifiers()), "one public constructor");
    }

    private static void classes() {
        Class<?>[] inside = DutiesProved.class.getDeclaredClasses();
        must(inside.length < 12, "twelve classes at most");
        for (Class<?> c : inside) {
            must(Modifier.isStatic(c.getModifiers()) && !Modifier.isPublic(c.getModifiers()), "static: " + c);
            ofClass(c);
        }
        ofClass(DutiesProved.class);
    }

    private static void ofClass(Class<?> c) {
        int fields = 0;
        for (Field f : c.getDeclaredFields()) {
            if (!Modifier.isStatic(f.getModifiers())) fields++;
            must(!Modifier.isStatic(f.getModifiers()) || Modifier.isFinal(f.getModifiers()), "final: " + f);
        }
        must(fields <= 20, "twenty fields at most: " + c);
        for (Method m : c.getDeclaredMethods()) must(m.getParameterCount() <= 7, "seven parameters: " + m);
    }

    /** All calls of a run live in one room: an object is small, and no call makes it larger. */
    private static void room() throws IllegalAccessException {
        DutiesProved x = new DutiesProved();
        must(smallEnough(x), "a new object is small");
        for (int task = 0; task < 6; task++) x.tasks(20, 2, 60);
        for (int i = 0; i < 96; i++) x.letter('x');
        for (int i = 0; i < 8; i++) x.row(i);
        x.image();
        x.first(3, 0);
        x.missing(20, 0);
        x.whatIs(5, 1);
        must(smallEnough(x), "a full object is small");
    }

    private static boolean smallEnough(Object whole) throws IllegalAccessException {
        IdentityHashMap<Object, Boolean> seen = new IdentityHashMap<>();
        ArrayDeque<Object> left = new ArrayDeque<>();
        left.add(whole);
        seen.put(whole, true);
        int elements = 0;
        while (!left.isEmpty()) {
            Object one = left.remove();
            if (one.getClass().isArray()) {
                elements += Array.getLength(one);
                continue;
            }
            for (Field f : one.getClass().getDeclaredFields()) {
                if (Modifier.isStatic(f.getModifiers())) continue;
                elements++;
                if (f.getType().isPrimitive()) continue;
                f.setAccessible(true);
                Object value = f.get(one);
                if (value != null && seen.put(value, true) == null) left.add(value);
            }
        }
        return seen.size() <= MOST_OBJECTS && elements <= MOST_ELEMENTS;
    }

    private static void text(String text) {
        for (int i = 0; i < text.length(); i++) {
            must(text.charAt(i) >= 1 && text.charAt(i) <= 127, "a plain sign at " + i);
        }
        String code = text.replaceAll("//.*", "").replaceAll("\"[^\"]*\"", "\"\"").replaceAll("'.'", "' '");
        String[] forbidden = {"\\bthrow\\b", "\\btry\\b", "\\bcatch\\b", "\\bsynchronized\\b", "\\bassert\\b",
            "\\bimport\\b", "\\bpackage\\b", "\\bthrows\\b", "->", "::", "Exact\\b", "\\bdouble\\b", "\\bfloat\\b",
            "\\bequals\\b", "\\bhashCode\\b", "\\btoString\\b", "\\bstatic\\s*\\{", "\\bRandom\\b", "\\bThread\\b",
            "\\bSystem\\.(?!arraycopy)", "\\bprotected\\b", "@", "\"\"\\s*\\+", "\\+\\s*\"\"",
            "while\\s*\\(true\\)", "for\\s*\\(;;\\)"};
        for (String f : forbidden) {
            Matcher m = Pattern.compile(f).matcher(code);
            must(!m.find(), "nothing of " + f);
        }
        newOnlyInFields(code);
        shortMethods(code);
    }

    /** All objects and arrays are made with the program's own object, none by a call. */
    private static void newOnlyInFields(String code) {
        for (String line : code.split("\n")) {
            boolean made = line.contains("new ");
            must(!made || line.matches("\\s*(private )?final \\S+ \\w+ = new .*;"), "made once: " + line.trim());
        }
    }

    private static void shortMethods(String code) {
        String[] lines = code.split("\n");
        int from = -1;
        String indent = "";
        for (int i = 0; i < lines.length; i++) {
            Matcher m = Pattern.compile("^(    |        )(\\S.*)\\)\\s*\\{$").matcher(lines[i]);
            if (from < 0 && m.find() && !m.group(2).contains(" class ")) {
                from = i;
                indent = m.group(1);
            } else if (from >= 0 && lines[i].equals(indent + "}")) {
                must(i - from < 60, "a short method: " + lines[from].trim());
                from = -1;
            }
        }
    }
}
