import com.sun.management.ThreadMXBean;
import java.io.IOException;
import java.lang.management.ManagementFactory;
import java.lang.reflect.Executable;
import java.lang.reflect.Field;
import java.lang.reflect.Method;
import java.lang.reflect.Modifier;
import java.nio.file.Files;
import java.nio.file.Path;
import java.util.List;
import java.util.TreeSet;
import java.util.regex.Matcher;
import java.util.regex.Pattern;

/** The public face, the rules of LANGUAGE.md that a program can see, and the room that calls take. */
public final class LanguageTest {
    private static final Path SOURCE = Path.of("src/main/java/TimeLinks.java");
    private static final String FACE = """
        int write(int)
        int wipe()
        int fault()
        int life()
        int span(int, int)
        int node(int)
        int put(int, int, int, int)
        int cut(int)
        int end(int, int)
        int undo()
        int at(int, int)
        int knot(int, int, int)
        int joined(int, int, int)
        int side(int, int, int)
        int work(int)
        int when(int, int)
        int bridges(int)
        int least(int, int, int, int)
        int judge(int, long)
        int see(int, int, int, int)
        int unsee()
        int missing(int)
        int share(int, int, boolean)
        int fails(int, int, int, int, boolean)
        long seed(long)
        int drawn(int)
        int keep(int)
        int again(int)
        int count(int)
        """;
    private static int wrong = 0;

    private static void rule(int number, boolean kept, String what) {
        if (!kept) {
            wrong++;
            System.out.println("rule " + number + ": " + what);
        }
    }

    private static String told(Method m) {
        StringBuilder s = new StringBuilder(m.getReturnType().getSimpleName() + " " + m.getName() + "(");
        for (Class<?> p : m.getParameterTypes()) {
            s.append(s.charAt(s.length() - 1) == '(' ? "" : ", ").append(p.getSimpleName());
        }
        return s.append(")").toString();
    }

    private static void face() {
        Class<?> c = TimeLinks.class;
        rule(1, c.getModifiers() == (Modifier.PUBLIC | Modifier.FINAL), "the class is public and final");
        rule(1, c.getDeclaredConstructors().length == 1 && c.getConstructors().length == 1, "one public constructor");
        TreeSet<String> due = new TreeSet<>(List.of(FACE.strip().split("\n")));
        TreeSet<String> found = new TreeSet<>();
        for (Method m : c.getDeclaredMethods()) {
            if (!Modifier.isPrivate(m.getModifiers())) found.add(told(m));
        }
        rule(1, found.equals(due), "methods are " + found + ", due are " + due);
        TreeSet<String> constants = new TreeSet<>();
        for (Field f : c.getDeclaredFields()) {
            if (!Modifier.isPrivate(f.getModifiers())) {
                constants.add(f.getType() + " " + Modifier.toString(f.getModifiers()) + " " + f.getName());
            }
        }
        TreeSet<String> dueConstants = new TreeSet<>();
        for (String name : new String[] {"UNKNOWN", "OUTSIDE", "STATE", "FULL", "NONE"}) {
            dueConstants.add("int public static final " + name);
        }
        rule(1, constants.equals(dueConstants), "constants are " + constants);
    }

    private static void classes() {
        TreeSet<String> names = new TreeSet<>();
        for (Method m : TimeLinks.class.getDeclaredMethods()) {
            if (Modifier.isPublic(m.getModifiers())) names.add(m.getName());
        }
        Class<?>[] inside = TimeLinks.class.getDeclaredClasses();
        rule(11, inside.length <= 11, "at most twelve classes");
        looks(TimeLinks.class, names);
        for (Class<?> c : inside) {
            rule(1, Modifier.isStatic(c.getModifiers()), c + " is static");
            rule(1, !Modifier.isPublic(c.getModifiers()) && !Modifier.isProtected(c.getModifiers()), c + " is private");
            looks(c, names);
        }
    }

    private static void looks(Class<?> c, TreeSet<String> publicNames) {
        int fields = 0;
        for (Field f : c.getDeclaredFields()) {
            boolean isStatic = Modifier.isStatic(f.getModifiers());
            rule(5, !isStatic || Modifier.isFinal(f.getModifiers()), f + " is final");
            if (!isStatic) fields++;
        }
        rule(11, fields <= 20, c + " has " + fields + " fields");
        for (Method m : c.getDeclaredMethods()) {
            rule(11, m.getParameterCount() <= 7, m + " has too many parameters");
            boolean ofTheFace = c == TimeLinks.class && Modifier.isPublic(m.getModifiers());
            rule(1, ofTheFace || !publicNames.contains(m.getName()), m + " bears the name of a public one");
        }
        for (Executable e : c.getDeclaredConstructors()) {
            rule(11, e.getParameterCount() <= 7, e + " has too many parameters");
        }
    }

    private static void words(String source) {
        String code = source.replaceAll("(?s)/\\*.*?\\*/", "").replaceAll("//[^\n]*", "");
        String[] words = {"throw", "throws", "try", "catch", "finally", "synchronized", "assert", "import", "package",
            "volatile", "native", "double", "float", "Object", "System", "Thread", "Random", "var", "lambda"};
        for (String word : words) {
            rule(6, !Pattern.compile("\\b" + word + "\\b").matcher(code).find(), "the word " + word);
        }
        rule(2, !code.contains("->") && !code.contains("::"), "no lambda, no method reference");
        rule(4, !code.contains("Exact"), "no Exact");
        rule(3, code.chars().allMatch(c -> c < 128), "signs beyond 127");
        rule(9, !code.contains("while (true)") && !code.contains("for (;;)"), "a loop without an end");
        Matcher made = Pattern.compile("\n( +)([^\n]*\\bnew\\b[^\n]*)").matcher(code);
        while (made.find()) {
            boolean inConstructor = made.group(2).startsWith("private final") || made.group(2).matches("\\w+\\[\\w+\\] = .*");
            rule(12, inConstructor, "an object is made outside a constructor: " + made.group(2));
        }
    }

    private static void lengths(String source) {
        int begun = 0, line = 0;
        for (String s : source.split("\n")) {
            line++;
            boolean head = s.matches("(    |        )[A-Za-z][^=;]*\\) \\{");
            if (head) begun = line;
            if (s.matches("(    |        )\\}") && begun > 0) {
                rule(11, line - begun < 60, "a method of more than sixty lines ends at " + line);
                begun = 0;
            }
        }
    }

    private static int everyCall(TimeLinks x, int i) {
        int sum = x.write("L+01".charAt(i % 4)) + x.fault() + x.life() + x.put(i % 8, i / 8 % 8, i % 3, 9 + i % 7);
        sum += x.span(0, 4) + x.node(1 + i % 31) + x.end(i % 3, 8) + x.at(i % 16, i % 5) + x.knot(i % 8, 9, i % 3);
        sum += x.joined(0, i % 8, 9) + x.side(0, i % 8, 9) + x.work(1) + x.when(0, i % 8) + x.bridges(9);
        sum += x.least(0, 1 + i % 7, 9, 1) + x.judge(3, 101124010150101L) + x.see(9, 0, 1 + i % 7, i % 2);
        sum += x.missing(i % 2) + x.share(0, 9, true) + x.fails(0, i % 8, 9, 3, true) + (int) x.seed(i);
        sum += x.drawn(16) + x.keep(i % 2) + x.count(3);
        if (i % 5 == 0) sum += x.cut(0) + x.undo() + x.unsee();
        if (i % 9 == 0) sum += x.again(i % 2) + x.wipe() + x.cut(1) + x.cut(0);
        return sum;
    }

    /** Calls make no objects, so that any number of them has room. */
    private static void room() {
        ThreadMXBean threads = (ThreadMXBean) ManagementFactory.getThreadMXBean();
        if (!threads.isThreadAllocatedMemorySupported()) return;
        TimeLinks x = new TimeLinks();
        int sum = 0;
        for (int i = 0; i < 100; i++) sum += everyCall(x, i);
        long id = Thread.currentThread().getId();
        long before = threads.getThreadAllocatedBytes(id);
        for (int i = 0; i < 2000; i++) sum += everyCall(x, i);
        long calls = threads.getThreadAllocatedBytes(id) - before;
        rule(12, calls < 20000, "calls took " + calls + " bytes (" + sum + ")");
        before = threads.getThreadAllocatedBytes(id);
        TimeLinks y = new TimeLinks();
        long made = threads.getThreadAllocatedBytes(id) - before;
        rule(12, made < 20000 && y.count(1) == 0, "a new object took " + made + " bytes");
    }

    public static void main(String[] args) throws IOException {
        String source = Files.readString(SOURCE);
        face();
        classes();
        words(source);
        lengths(source);
        room();
        System.out.println(wrong == 0 ? "the rules are kept" : wrong + " rules are not kept");
        if (wrong != 0) System.exit(1);
    }
}
