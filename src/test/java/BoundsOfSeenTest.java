/** The bounds of what is SEEN and what is MISSING: promises 21 to 23. */
public final class BoundsOfSeenTest {
    private static final int UNKNOWN = Bounds.UNKNOWN, OUTSIDE = Bounds.OUTSIDE, FULL = Bounds.FULL, NONE = Bounds.NONE;
    /** All pairs of KNOTS 0 to 5, 15 in all. */
    private static final String FIFTEEN = "01 02 03 04 05 12 13 14 15 23 24 25 34 35 45";

    private static Bounds always(String pairs) {
        Bounds x = new Bounds();
        for (String pair : pairs.split(" ")) {
            x.then("put(" + pair.charAt(0) + ", " + pair.charAt(1) + ", 0, 15)");
        }
        return x;
    }

    private static void see() {
        Bounds.says("SEEN: how many there are.");
        Bounds x = new Bounds();
        x.due("count(5)", 0).due("see(0, 0, 7, 0)", 1).due("see(15, 7, 0, 1)", 2).due("see(15, 7, 0, 1)", 3);
        x.due("count(5)", 3);
        Bounds.says("see: UNKNOWN: time, a, b");
        x.each(Bounds.NO_TIMES, "see(#, 0, 1, 0)", UNKNOWN).each(Bounds.NO_KNOTS, "see(0, #, 1, 0)", UNKNOWN);
        x.each(Bounds.NO_KNOTS, "see(0, 0, #, 0)", UNKNOWN).each(Bounds.NO_KNOTS, "see(0, #, #, 2)", UNKNOWN);
        x.each(Bounds.NO_TIMES, "see(#, 1, 1, 2)", UNKNOWN).due("count(5)", 3);
        Bounds.says("see: OUTSIDE: both KNOTS are one, joined (0, 1)");
        for (int knot = 0; knot < 8; knot++) {
            x.due("see(0, " + knot + ", " + knot + ", 1)", OUTSIDE);
        }
        x.each("-1 2 min max", "see(0, 0, 1, #)", OUTSIDE).each("-1 2 min max", "see(0, 1, 1, #)", OUTSIDE);
        x.due("count(5)", 3);
        Bounds.says("FULL: 6. 6 such at most");
        Bounds y = new Bounds();
        for (int i = 1; i <= 6; i++) {
            y.due("see(" + i + ", 0, 1, 1)", i);
        }
        y.due("see(7, 0, 1, 1)", FULL).due("see(1, 0, 1, 1)", FULL).due("see(1, 1, 1, 1)", OUTSIDE);
        y.due("see(1, 0, 1, 2)", OUTSIDE).due("see(16, 0, 1, 1)", UNKNOWN).due("count(5)", 6);
        y.due("unsee()", 6).due("see(7, 0, 1, 1)", 1);
    }

    private static void unsee() {
        Bounds.says("Nothing is SEEN: how much there was.");
        Bounds x = new Bounds();
        x.due("unsee()", 0).due("unsee()", 0).due("see(0, 0, 1, 0)", 1).due("unsee()", 1).due("unsee()", 0);
        x.due("count(5)", 0).due("missing(0)", 3808).due("see(3, 0, 1, 1)", 1).due("missing(0)", 52);
        Bounds.says("none at first");
        new Bounds().due("unsee()", 0);
        new Bounds().due("missing(0)", 3808);
    }

    private static void missing() {
        Bounds.says("SPANS that could be PUT now");
        new Bounds().due("missing(0)", 28 * 136).due("missing(1)", 10000);
        always("01").due("missing(0)", 27 * 136).due("missing(1)", 20000);
        Bounds.of("put(0, 1, 7, 8)").due("missing(0)", 27 * 136 + 28 + 28).due("missing(1)", 10000);
        Bounds.of("put(0, 1, 0, 14)").due("missing(0)", 27 * 136 + 1).due("missing(1)", 11515);
        Bounds.of("put(0, 1, 1, 15)").due("missing(0)", 27 * 136 + 1).due("missing(1)", 10000);
        Bounds.of("put(0, 1, 1, 14)").due("missing(0)", 27 * 136 + 2).due("missing(1)", 10000);
        Bounds.of("put(6, 7, 4, 4)", "put(6, 7, 12, 12)", "see(5, 6, 7, 1)").due("missing(0)", 7).due("missing(1)", 670505);
        Bounds.says("by which all that is SEEN is so: how many (what = 0)");
        Bounds.of("see(0, 0, 7, 1)").due("missing(0)", 16).due("missing(1)", 70000);
        Bounds.of("see(15, 7, 6, 1)").due("missing(0)", 16).due("missing(1)", 670015);
        Bounds.of("see(0, 6, 7, 0)").due("missing(0)", 28 * 136 - 16).due("missing(1)", 10000);
        // 4 first TIMES and 13 last ones hold TIME 3; the sixth leaves those that end at 3
        Bounds six = new Bounds();
        for (int i = 0; i < 5; i++) {
            six.then("see(3, 0, 1, 1)");
        }
        six.due("missing(0)", 52).due("missing(1)", 10003).due("see(4, 1, 0, 0)", 6).due("missing(0)", 4);
        six.due("missing(1)", 10003);
        Bounds.says("were JOINED (1), or were not (0), when there was one SPAN more than there is");
        always("01").then("see(5, 0, 1, 1)").due("missing(0)", 27 * 136);
        always("01 23").then("see(5, 0, 3, 1)").due("missing(0)", 4 * 66).due("missing(1)", 20005);
        always("01 23").then("see(5, 0, 3, 0)").due("missing(0)", 26 * 136 - 4 * 66).due("missing(1)", 20000);
        always("01 12").then("see(15, 2, 3, 1)").due("missing(0)", 3 * 16).due("missing(1)", 30015);
        Bounds.of("put(0, 1, 0, 5)", "see(5, 0, 2, 1)", "see(6, 0, 2, 0)").due("missing(0)", 6 * 11 + 6);
    }

    private static void theFirst() {
        Bounds.says("by the lesser KNOT, the other one, the first TIME, the last one: 100000 times the one, 10000 times the other");
        Bounds.of("see(14, 6, 7, 0)", "see(15, 7, 6, 1)").due("missing(0)", 1).due("missing(1)", 671515);
        Bounds.of("see(0, 6, 7, 1)", "see(15, 7, 6, 1)").due("missing(0)", 1).due("missing(1)", 670015);
        Bounds.of("see(9, 6, 7, 0)", "see(10, 7, 6, 1)").due("missing(0)", 6).due("missing(1)", 671010);
        Bounds.of("see(0, 2, 1, 1)").due("missing(1)", 120000);
        always("01 67").then("see(15, 1, 6, 1)").due("missing(1)", 60015);
        always("01 02 03 04 05 06 07").due("missing(1)", 120000).due("missing(0)", 21 * 136);
        always("01 02 03 04 05 06").then("put(0, 7, 0, 14)").due("missing(1)", 71515).due("missing(0)", 21 * 136 + 1);
        Bounds.says("how many; the first; NONE (none is MISSING)");
        Bounds x = Bounds.of("see(3, 0, 1, 1)", "see(3, 0, 1, 0)").due("missing(1)", NONE).due("missing(0)", 0);
        x.then("unsee()").due("missing(1)", 10000);
        always("01").then("see(5, 0, 1, 0)").due("missing(1)", NONE).due("missing(0)", 0);
        Bounds.of("see(5, 0, 1, 1)", "see(5, 2, 3, 1)").due("missing(1)", NONE).due("missing(0)", 0);
        Bounds.says("missing: OUTSIDE");
        new Bounds().each("-1 2 min max", "missing(#)", OUTSIDE);
        x.each("-1 2 min max", "missing(#)", OUTSIDE);
        Bounds.says("missing: FULL: there are 16 SPANS.");
        Bounds full = always(FIFTEEN).due("missing(0)", 13 * 136).due("missing(1)", 60000).then("put(6, 7, 0, 15)");
        full.due("missing(0)", FULL).due("missing(1)", FULL).each("-1 2 min max", "missing(#)", OUTSIDE);
        full.then("see(0, 0, 1, 0)").due("missing(1)", FULL).then("unsee()", "cut(0)").due("missing(0)", 13 * 136);
        full.due("missing(1)", 10000);
    }

    public static void main(String[] args) {
        see();
        unsee();
        missing();
        theFirst();
        Bounds.end();
    }
}
