import java.lang.reflect.Constructor;
import java.lang.reflect.Field;
import java.lang.reflect.Method;
import java.lang.reflect.Modifier;
import java.nio.charset.StandardCharsets;
import java.nio.file.Files;
import java.nio.file.Path;
import java.util.Arrays;
import java.util.Set;
import java.util.TreeSet;
import java.util.regex.Pattern;

/** The public face, and those rules of LANGUAGE.md that can be looked at from outside. */
public final class FaceTests {
    private static final String[] FACE = {"write(long,int)", "erase()", "fault()", "chin()",
        "thing(int,int)", "lump(int,int,int)", "begin(int,int,int)", "ticks(int)", "now(int)",
        "keep(int)", "back(int)", "kept(int,int,int)", "steady(int,int)", "line(int)",
        "best(int,int,int)", "odds(int,int,int,int,int,int)", "stands(int,int)",
        "two(int,int,int,int,int,int)", "film(int,int)", "wind()", "fits(int)", "next(int,int)",
        "plan(int,int)", "room(int,int,int)", "way(int,int,int,int,int)", "count(int)"};
    private static final String[] CONSTANTS = {"NONE", "UNKNOWN", "OUTSIDE", "NOT", "FULL"};
    private static final String[] FORBIDDEN = {"\\bthrow\\b", "\\bthrows\\b", "\\btry\\b", "\\bcatch\\b",
        "\\bsynchronized\\b", "\\bassert\\b", "\\bimport\\b", "\\bpackage\\b", "->", "::", "\\bprotected\\b",
        "\\bdouble\\b", "\\bfloat\\b", "\\bThread\\b", "\\bnanoTime\\b", "\\bcurrentTimeMillis\\b",
        "Exact\\b", "\\bstatic\\s*\\{"};

    private final Checks checks = new Checks();

    public static void main(String[] args) throws Exception {
        FaceTests tests = new FaceTests();
        tests.members();
        tests.nested(OnChin.class);
        tests.words();
        tests.roomOfCalls();
        tests.checks.end();
    }

    private void holds(String rule, boolean is) {
        checks.due(rule, is ? 1 : 0, 1);
    }

    private void members() throws Exception {
        int modifiers = OnChin.class.getModifiers();
        holds("public and final", Modifier.isPublic(modifiers) && Modifier.isFinal(modifiers));
        Set<String> found = new TreeSet<>();
        Set<String> publicNames = new TreeSet<>();
        for (Method m : OnChin.class.getDeclaredMethods()) {
            if (!Modifier.isPrivate(m.getModifiers())) {
                String types = Arrays.toString(Arrays.stream(m.getParameterTypes()).map(Class::getName).toArray());
                found.add(m.getName() + "(" + types.replaceAll("[\\[\\] ]", "") + ")");
                publicNames.add(m.getName());
                holds(m + " is public and answers int", Modifier.isPublic(m.getModifiers())
                    && !Modifier.isStatic(m.getModifiers()) && m.getReturnType() == int.class);
            }
        }
        holds("the face's methods: " + found, found.equals(new TreeSet<>(Arrays.asList(FACE))));
        Set<String> fields = new TreeSet<>();
        for (Field f : OnChin.class.getDeclaredFields()) {
            if (!Modifier.isPrivate(f.getModifiers())) {
                fields.add(f.getName());
                holds(f + " is a public constant", f.toString().startsWith("public static final int "));
            }
        }
        holds("the face's constants: " + fields, fields.equals(new TreeSet<>(Arrays.asList(CONSTANTS))));
        checks.due("NONE", OnChin.NONE, -1);
        checks.due("UNKNOWN", OnChin.UNKNOWN, -2);
        checks.due("OUTSIDE", OnChin.OUTSIDE, -3);
        checks.due("NOT", OnChin.NOT, -4);
        checks.due("FULL", OnChin.FULL, -5);
        Constructor<?>[] makers = OnChin.class.getDeclaredConstructors();
        holds("one public constructor", makers.length == 1 && makers[0].getParameterCount() == 0
            && Modifier.isPublic(makers[0].getModifiers()));
        for (Class<?> inside : OnChin.class.getDeclaredClasses()) {
            for (Method m : inside.getDeclaredMethods()) {
                holds(m + " bears a name of the face", !publicNames.contains(m.getName()));
            }
        }
        for (Method m : OnChin.class.getDeclaredMethods()) {
            boolean isPrivate = Modifier.isPrivate(m.getModifiers());
            holds(m + " bears a name of the face", !isPrivate || !publicNames.contains(m.getName()));
        }
    }

    private void nested(Class<?> outer) {
        holds("some twelve classes", outer.getDeclaredClasses().length <= 12);
        for (Class<?> inside : outer.getDeclaredClasses()) {
            holds(inside + " is static", Modifier.isStatic(inside.getModifiers()));
            holds(inside + " is not public", !Modifier.isPublic(inside.getModifiers()));
            long fields = Arrays.stream(inside.getDeclaredFields())
                .filter(f -> !Modifier.isStatic(f.getModifiers())).count();
            holds(inside + " has few fields", fields <= 20);
            for (Method m : inside.getDeclaredMethods()) {
                holds(m + " takes seven at most", m.getParameterCount() <= 7);
            }
            for (Field f : inside.getDeclaredFields()) {
                int bits = f.getModifiers();
                holds(f + " is no static state", !Modifier.isStatic(bits) || Modifier.isFinal(bits));
            }
        }
    }

    /** All rows are made in the constructor: what a run takes does not grow with its calls. */
    private void roomOfCalls() {
        com.sun.management.ThreadMXBean threads =
            (com.sun.management.ThreadMXBean) java.lang.management.ManagementFactory.getThreadMXBean();
        long me = Thread.currentThread().getId();
        long least = Long.MAX_VALUE;
        for (int round = 0; round < 3; round++) {
            OnChin chin = Checks.told("lump 0 60 5;lump 1 90 2;lump 1 30 1;wind 1;shake 3");
            long text = Checks.packed("pull 19 ", 0, 8);
            long before = threads.getThreadAllocatedBytes(me);
            askAll(chin, text);
            least = Math.min(least, threads.getThreadAllocatedBytes(me) - before);
        }
        // the first rounds load classes; what is left is at most the measuring itself
        holds("calls make no objects: " + least + " bytes", least < 256);
    }

    private static void askAll(OnChin c, long text) {
        c.write(text, 8);
        c.fault();
        c.chin();
        c.write(text, 3);
        c.erase();
        c.thing(0, 3);
        c.lump(1, 1, 0);
        c.begin(1, 9, 1);
        c.ticks(3);
        c.now(0);
        c.keep(0);
        c.back(0);
        c.kept(0, 5, 0);
        c.steady(0, 3);
        c.line(2);
        c.best(0, 1, 0);
        c.odds(0, 5, 6, 9, 3, 0);
        c.stands(1, 2);
        c.two(0, 1, 1, 2, 1, 1);
        c.film(5, 5);
        c.fits(0);
        c.next(4, 1);
        c.wind();
        c.plan(5, 1);
        c.room(7, 5, 100);
        c.way(0, 0, 35, 9, 1);
        c.count(5);
    }

    private void words() throws Exception {
        String source = Files.readString(Path.of("src/main/java/OnChin.java"), StandardCharsets.UTF_8);
        String code = source.replaceAll("(?s)/\\*.*?\\*/", " ").replaceAll("//[^\n]*", " ")
            .replaceAll("\"[^\"]*\"", "\"\"");
        for (String word : FORBIDDEN) {
            holds("no " + word, !Pattern.compile(word).matcher(code).find());
        }
        holds("signs below 128 alone", source.chars().allMatch(sign -> sign < 128));
    }
}
