import java.lang.reflect.InvocationTargetException;
import java.lang.reflect.Method;
import java.lang.reflect.Modifier;
import java.util.ArrayList;
import java.util.HashMap;
import java.util.List;
import java.util.Map;
import java.util.Set;

/**
 * One object and calls on it, told as texts ("put(0, 7, 0, 15)") with the answers that are due.
 *
 * <p>A call that is refused, or that only asks, must change nothing: behind each one a twin that had this call
 * is compared with a twin that had not, by all that can be asked of them, their past and their SLOTS too.
 */
final class Bounds {
    static final int UNKNOWN = -1, OUTSIDE = -2, STATE = -3, FULL = -4, NONE = -9;
    static final String SIXTEEN = "L+01+02+03+04+05+06+07+12+13+14+15+16+17+23+24+25";
    static final String NO_KNOTS = "-1 8 min max";
    static final String NO_TIMES = "-1 16 min max";

    private static final int MOST_CALLS = 512;
    private static final int TRACES = 3;
    private static final Set<String> ASKING = Set.of("fault", "span", "node", "at", "knot", "joined", "side", "work",
        "when", "bridges", "least", "judge", "missing", "share", "fails", "count");
    private static final Map<String, Method> FACE = face();

    private static String sentence = "";
    private static int sentences = 0;
    private static int answersOfSentence = 0;
    private static int answers = 0;
    private static int wrong = 0;

    /** The calls by which the object is as it is; those that changed nothing are left out. */
    private final List<String> changes = new ArrayList<>();
    private List<List<Long>> tracesNow = null;
    private Twin twin = new Twin();

    private static final class Twin {
        final TimeLinks object = new TimeLinks();
        int calls = 0;

        long ask(String call) {
            calls++;
            if (calls > MOST_CALLS) {
                fault("the test has asked one object more than " + MOST_CALLS + " times");
            }
            return invoke(object, call);
        }
    }

    private static Map<String, Method> face() {
        Map<String, Method> face = new HashMap<>();
        for (Method m : TimeLinks.class.getDeclaredMethods()) {
            if (Modifier.isPublic(m.getModifiers())) {
                face.put(m.getName(), m);
            }
        }
        return face;
    }

    private static void fault(String words) {
        wrong++;
        System.out.println("\"" + sentence + "\": " + words);
    }

    /** The words of the document to which the next answers belong. */
    static void says(String words) {
        endSentence();
        sentence = words;
        sentences++;
        answersOfSentence = 0;
    }

    private static void endSentence() {
        if (sentences > 0 && answersOfSentence == 0) {
            fault("has no test");
        }
    }

    static void end() {
        endSentence();
        System.out.println(sentences + " sentences, " + answers + " answers, "
            + (wrong == 0 ? "all as due" : wrong + " not as due"));
        if (wrong != 0) {
            System.exit(1);
        }
    }

    static void same(String what, long got, long want) {
        answers++;
        answersOfSentence++;
        if (got != want) {
            fault(what + " answered " + got + ", due is " + want);
        }
    }

    // ---- making

    /** An object behind these calls, of which none may be refused. */
    static Bounds of(String... calls) {
        return new Bounds().then(calls);
    }

    Bounds then(String... calls) {
        for (String call : calls) {
            long got = ask(call);
            if (got < 0 && !call.startsWith("seed")) {
                fault(call + " was refused by " + got + ", behind " + changes);
            }
            changed(call);
        }
        return this;
    }

    static Bounds written(String text) {
        return new Bounds().write(text);
    }

    static Bounds living(String text) {
        return written(text).then("life()");
    }

    /** THE TEXT becomes this one. */
    Bounds write(String text) {
        then("wipe()");
        for (char letter : text.toCharArray()) {
            then("write(" + (int) letter + ")");
        }
        return this;
    }

    // ---- asking

    Bounds due(String call, long want) {
        long got = ask(call);
        same(call + " behind " + changes, got, want);
        if (changesNothing(call, want)) {
            leaves(call);
        } else {
            changed(call);
        }
        return this;
    }

    /** The same answer, whichever of these values stands for #. */
    Bounds each(String values, String call, long want) {
        for (String value : values.split(" ")) {
            due(call.replace("#", value), want);
        }
        return this;
    }

    /** Both KNOTS, the first TIME and the last one of a SPAN, told as four figures in base 16. */
    Bounds isSpan(int span, String figures) {
        for (int what = 0; what < 4; what++) {
            String call = "span(" + span + ", " + what + ")";
            same(call + " behind " + changes, ask(call), Character.digit(figures.charAt(what), 16));
        }
        return this;
    }

    /** Both halves of a FRACTION; # stands for upper. */
    Bounds fraction(String call, long above, long below) {
        return due(call.replace("#", "true"), above).due(call.replace("#", "false"), below);
    }

    long ask(String call) {
        if (twin.calls >= MOST_CALLS) {
            twin = replayed();
        }
        return twin.ask(call);
    }

    private void changed(String call) {
        changes.add(call);
        tracesNow = null;
    }

    private Twin replayed() {
        Twin t = new Twin();
        for (String call : changes) {
            t.ask(call);
        }
        return t;
    }

    private static String nameOf(String call) {
        return call.substring(0, call.indexOf('('));
    }

    /** seed is never refused, so a number below 0 is no refusal there. */
    private static boolean changesNothing(String call, long want) {
        String name = nameOf(call);
        return ASKING.contains(name) || (!name.equals("seed") && want <= UNKNOWN && want >= FULL);
    }

    /** Behind these calls together all is as it was. */
    Bounds leaves(String... calls) {
        answersOfSentence++;
        if (tracesNow == null) {
            tracesNow = new ArrayList<>();
            for (int kind = 0; kind < TRACES; kind++) {
                tracesNow.add(trace(replayed(), kind));
            }
        }
        for (int kind = 0; kind < TRACES; kind++) {
            Twin asked = replayed();
            for (String call : calls) {
                asked.ask(call);
            }
            if (!trace(asked, kind).equals(tracesNow.get(kind))) {
                fault(String.join(", ", calls) + " changed something, behind " + changes);
            }
        }
        return this;
    }

    // ---- all that can be asked of a twin, who is used up by it

    private static List<Long> trace(Twin t, int kind) {
        List<Long> found = new ArrayList<>();
        if (kind == 0) {
            tracePast(t, found);
        } else if (kind == 1) {
            traceSlots(t, found);
        } else {
            traceSeen(t, found);
        }
        return found;
    }

    private static void tracePast(Twin t, List<Long> found) {
        for (int what = 0; what < 6; what++) {
            found.add(t.ask("count(" + what + ")"));
        }
        found.add(t.ask("fault()"));
        found.add(t.ask("seed(0)"));
        traceSpans(t, found);
        for (int i = 0; i < 14; i++) {
            found.add(t.ask("undo()"));
            found.add(t.ask("count(1)"));
            found.add(t.ask("count(2)"));
            found.add(t.ask("count(3)"));
        }
        found.add(t.ask("undo()"));
        traceSpans(t, found);
    }

    private static void traceSlots(Twin t, List<Long> found) {
        for (int slot = 0; slot < 2; slot++) {
            found.add(t.ask("again(" + slot + ")"));
            traceSpans(t, found);
        }
        found.add(t.ask("life()"));
        traceSpans(t, found);
        found.add(t.ask("wipe()"));
    }

    /** With the SPANS as they are, and with none, for 16 of them hide what was SEEN. */
    private static void traceSeen(Twin t, List<Long> found) {
        found.add(t.ask("missing(0)"));
        found.add(t.ask("missing(1)"));
        t.ask("wipe()");
        t.ask("write(76)");
        t.ask("life()");
        found.add(t.ask("missing(0)"));
        found.add(t.ask("missing(1)"));
        found.add(t.ask("unsee()"));
    }

    private static void traceSpans(Twin t, List<Long> found) {
        long spans = t.ask("count(1)");
        for (int span = 0; span < spans; span++) {
            for (int what = 0; what < 4; what++) {
                found.add(t.ask("span(" + span + ", " + what + ")"));
            }
        }
    }

    // ---- calls as texts

    private static long invoke(TimeLinks object, String call) {
        Method method = FACE.get(nameOf(call));
        String inside = call.substring(call.indexOf('(') + 1, call.length() - 1);
        String[] told = inside.isEmpty() ? new String[0] : inside.split(", ");
        Class<?>[] types = method.getParameterTypes();
        if (told.length != types.length) {
            throw new IllegalArgumentException(call);
        }
        Object[] values = new Object[told.length];
        for (int i = 0; i < told.length; i++) {
            values[i] = value(told[i], types[i]);
        }
        try {
            return ((Number) method.invoke(object, values)).longValue();
        } catch (InvocationTargetException e) {
            fault(call + " threw " + e.getCause());
            return Long.MIN_VALUE;
        } catch (IllegalAccessException e) {
            throw new IllegalStateException(call, e);
        }
    }

    /** min and max are the least and the greatest number of the type. */
    private static Object value(String told, Class<?> type) {
        if (type == boolean.class) {
            return Boolean.valueOf(told);
        }
        boolean isLong = type == long.class;
        if (told.equals("min")) {
            return isLong ? (Object) Long.MIN_VALUE : (Object) Integer.MIN_VALUE;
        }
        if (told.equals("max")) {
            return isLong ? (Object) Long.MAX_VALUE : (Object) Integer.MAX_VALUE;
        }
        return isLong ? (Object) Long.valueOf(told) : (Object) Integer.valueOf(told);
    }
}
