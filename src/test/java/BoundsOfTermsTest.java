/** The bounds that "Terms" names for all calls: what there is, what is refused, in which order, FRACTIONS. */
public final class BoundsOfTermsTest {
    private static final int UNKNOWN = Bounds.UNKNOWN, OUTSIDE = Bounds.OUTSIDE, STATE = Bounds.STATE;
    private static final int FULL = Bounds.FULL, NONE = Bounds.NONE;

    /** Something of all that an object holds: THE ROW has forgotten ACTS, both SLOTS are unlike, THE TEXT is new. */
    private static Bounds rich() {
        Bounds x = Bounds.living("L+01+12-01+02").then("keep(0)", "put(3, 4, 2, 9)", "keep(1)");
        for (int i = 0; i < 8; i++) {
            x.then("end(3, 10)", "end(3, 9)");
        }
        x.then("see(5, 0, 4, 1)", "see(1, 0, 2, 1)", "see(0, 3, 4, 0)", "seed(77)");
        return x.write("L+56-56");
    }

    /** As much as there can be of all: 64 letters, 16 SPANS, 14 ACTS, 6 that are SEEN. */
    private static Bounds full() {
        Bounds x = Bounds.living(Bounds.SIXTEEN).then("keep(1)");
        for (int i = 0; i < 7; i++) {
            x.then("cut(15)", "put(2, 5, 15, 15)");
        }
        for (int i = 0; i < 6; i++) {
            x.then("see(" + i + ", 0, 7, " + i % 2 + ")");
        }
        return x.write("L" + ".".repeat(63));
    }

    private static void atMost512Calls() {
        Bounds.says("An object is used for at most 512 calls after it has been made");
        TimeLinks x = new TimeLinks();
        for (int i = 0; i < 255; i++) {
            Bounds.same("put, call " + (2 * i + 1), x.put(0, 7, 0, 15), 0);
            Bounds.same("cut, call " + (2 * i + 2), x.cut(0), 0);
        }
        Bounds.same("put, call 511", x.put(0, 7, 0, 15), 0);
        Bounds.same("count, call 512", x.count(3), 16);
        Bounds.says("what later calls answer is free");
        int rounds = 0;
        for (int i = 0; i < 600; i++) {
            x.write(i % 256);
            x.put(i % 8, i / 8 % 8, i % 16, 15);
            x.see(i % 16, i % 8, i / 8 % 8, i % 2);
            x.undo();
            x.drawn(16);
            rounds++;
        }
        Bounds.same("they end all the same, and none throws: rounds", rounds, 600);
    }

    private static void knots() {
        Bounds.says("there is no such KNOT (0 to 7)");
        Bounds x = Bounds.of("put(0, 7, 0, 15)");
        String[] calls = {"put(#, 1, 0, 0)", "put(1, #, 0, 0)", "knot(#, 0, 0)", "joined(#, 0, 0)", "joined(0, #, 0)",
            "side(#, 0, 0)", "side(0, #, 0)", "when(#, 0)", "when(0, #)", "least(#, 0, 0, 0)", "least(0, #, 0, 0)",
            "see(0, #, 0, 0)", "see(0, 0, #, 0)", "fails(#, 0, 0, 5, true)", "fails(0, #, 0, 5, true)"};
        for (String call : calls) {
            x.each(Bounds.NO_KNOTS, call, UNKNOWN);
        }
        x.due("knot(0, 0, 2)", 2).due("knot(7, 0, 2)", 2);
        x.due("joined(0, 7, 0)", 1).due("joined(7, 0, 0)", 1).due("side(0, 7, 0)", 1).due("side(7, 0, 0)", 1);
        x.due("when(0, 7)", 65535).due("when(7, 0)", 65535).due("least(0, 7, 0, 0)", 1).due("least(7, 0, 0, 1)", 1);
        x.fraction("fails(0, 7, 0, 5, #)", 1, 2).fraction("fails(7, 0, 0, 5, #)", 1, 2);
        x.due("see(0, 0, 7, 0)", 1).due("see(0, 7, 0, 0)", 2);
        x.due("put(0, 1, 0, 0)", 1).due("put(1, 7, 0, 0)", 2).due("put(7, 2, 0, 0)", 3).due("put(2, 0, 0, 0)", 4);
    }

    private static void times() {
        Bounds.says("there is no such TIME (0 to 15)");
        Bounds x = Bounds.of("put(0, 1, 0, 15)", "put(0, 2, 0, 0)");
        String[] calls = {"put(2, 3, #, 15)", "put(2, 3, 0, #)", "end(1, #)", "at(#, 0)", "knot(0, #, 0)",
            "joined(0, 1, #)", "side(0, 1, #)", "bridges(#)", "least(0, 1, #, 0)", "see(#, 0, 1, 0)",
            "share(0, #, true)", "fails(0, 1, #, 5, true)"};
        for (String call : calls) {
            x.each(Bounds.NO_TIMES, call, UNKNOWN);
        }
        x.due("at(0, 0)", 6).due("at(15, 0)", 7).due("knot(2, 0, 2)", 3).due("knot(2, 15, 2)", 1);
        x.due("joined(1, 2, 0)", 1).due("joined(1, 2, 15)", 0).due("side(1, 2, 0)", 0).due("side(0, 1, 15)", 1);
        x.due("bridges(0)", 3).due("bridges(15)", 1).due("least(1, 2, 0, 1)", 1).due("least(1, 2, 15, 1)", 0);
        x.fraction("share(1, 0, #)", 1, 1).fraction("share(1, 15, #)", 0, 1);
        x.fraction("fails(1, 2, 0, 5, #)", 1, 4).fraction("fails(0, 1, 15, 5, #)", 1, 2);
        x.due("see(0, 0, 1, 1)", 1).due("see(15, 0, 1, 1)", 2);
        x.due("put(2, 3, 0, 0)", 2).due("put(2, 3, 15, 15)", 3).due("put(2, 4, 0, 15)", 4);
        x.due("end(1, 15)", 0).due("end(1, 0)", 15);
    }

    private static void spans() {
        Bounds.says("there is no such SPAN");
        String[] calls = {"span(#, 0)", "cut(#)", "end(#, 3)", "share(#, 0, true)", "share(#, 0, false)"};
        Bounds none = new Bounds();
        Bounds one = Bounds.of("put(0, 1, 0, 15)");
        Bounds sixteen = Bounds.living(Bounds.SIXTEEN);
        for (String call : calls) {
            none.each("-1 0 1 min max", call, UNKNOWN);
            one.each("-1 1 2 min max", call, UNKNOWN);
            sixteen.each("-1 16 17 min max", call, UNKNOWN);
        }
        one.due("span(0, 1)", 1).fraction("share(0, 0, #)", 1, 1).due("end(0, 3)", 15).due("cut(0)", 0);
        sixteen.due("span(0, 1)", 1).due("span(15, 1)", 5).fraction("share(15, 0, #)", 0, 1);
        sixteen.due("end(14, 14)", 15).due("cut(15)", 15).due("cut(15)", UNKNOWN).due("cut(14)", 14);
    }

    private static void nodes() {
        Bounds.says("there is no such NODE (1 to 31)");
        Bounds.of("put(0, 1, 0, 15)").due("node(1)", 1).each("0 -1 32 min max", "node(#)", UNKNOWN);
        Bounds.of("put(0, 1, 15, 15)").due("node(31)", 1).due("node(1)", 0).due("node(32)", UNKNOWN);
    }

    private static void slots() {
        Bounds.says("there is no such SLOT. SLOTS 0 to 1 keep SPANS");
        Bounds x = Bounds.of("put(0, 1, 0, 15)");
        x.each("-1 2 min max", "keep(#)", UNKNOWN).each("-1 2 min max", "again(#)", UNKNOWN);
        x.due("keep(0)", 1).due("keep(1)", 1).due("again(0)", 1).due("again(1)", 1);
    }

    private static void otherNumbers() {
        Bounds.says("OUTSIDE (another number is not as told)");
        Bounds x = Bounds.of("put(0, 1, 0, 15)");
        x.each("-1 256 min max", "write(#)", OUTSIDE).each("-1 5 min max", "span(0, #)", OUTSIDE);
        x.each("-1 5 min max", "at(0, #)", OUTSIDE).each("-1 3 min max", "knot(0, 0, #)", OUTSIDE);
        x.each("-1 2 min max", "work(#)", OUTSIDE).each("-1 2 min max", "least(0, 1, 0, #)", OUTSIDE);
        x.each("-1 0 4 min max", "judge(#, 0)", OUTSIDE).each("-1 100000 min max", "judge(1, #)", OUTSIDE);
        x.each("-1 2 min max", "see(0, 0, 1, #)", OUTSIDE).each("-1 2 min max", "missing(#)", OUTSIDE);
        x.each("-1 11 min max", "fails(0, 1, 0, #, true)", OUTSIDE).each("-1 0 17 min max", "drawn(#)", OUTSIDE);
        x.each("-1 6 min max", "count(#)", OUTSIDE);
        x.due("span(0, 0)", 0).due("span(0, 4)", 1).due("at(0, 0)", 7).due("at(0, 4)", 2);
        x.due("knot(1, 0, 0)", 0).due("knot(1, 0, 2)", 2).due("work(0)", 1).due("work(1)", 1);
        x.due("least(0, 1, 0, 0)", 1).due("least(0, 1, 0, 1)", 1).due("missing(0)", 3672).due("missing(1)", 20000);
        x.due("judge(1, 40100)", NONE).due("judge(1, 99999)", 0).due("judge(3, 0)", 0);
        x.fraction("fails(0, 1, 0, 0, #)", 1, 1).fraction("fails(0, 1, 0, 10, #)", 0, 1);
        x.due("see(0, 0, 1, 0)", 1).due("see(0, 0, 1, 1)", 2).due("count(0)", 0).due("count(5)", 2);
        x.due("write(0)", 1).due("write(255)", 2);
        Bounds.same("drawn(1) is no refusal", x.ask("drawn(1)") > 0 ? 1 : 0, 1);
        Bounds.same("drawn(16) is no refusal", x.ask("drawn(16)") > 0 ? 1 : 0, 1);
    }

    private static void firstThatACallNames() {
        Bounds.says("REFUSALS, of several the first that a call names");
        Bounds x = full();
        x.due("write(256)", OUTSIDE).due("write(-1)", OUTSIDE).due("write(0)", FULL);
        x.due("span(16, 5)", UNKNOWN).due("span(-1, -1)", UNKNOWN);
        x.due("put(8, 8, 3, 2)", UNKNOWN).due("put(0, 8, 3, 2)", UNKNOWN).due("put(0, 0, 16, 2)", UNKNOWN);
        x.due("put(0, 1, 0, -1)", UNKNOWN).due("put(0, 1, 0, 16)", UNKNOWN).due("put(6, 7, 16, 16)", UNKNOWN);
        x.due("put(0, 1, 3, 2)", OUTSIDE).due("put(2, 2, 0, 0)", OUTSIDE).due("put(6, 7, 3, 2)", OUTSIDE);
        x.due("put(0, 1, 3, 3)", STATE).due("put(6, 7, 0, 0)", FULL);
        x.due("end(16, 16)", UNKNOWN).due("end(16, 15)", UNKNOWN).due("end(0, 16)", UNKNOWN).due("end(0, 15)", STATE);
        x.due("at(16, 5)", UNKNOWN).due("knot(8, 0, 3)", UNKNOWN).due("knot(0, 16, 3)", UNKNOWN);
        x.due("side(8, 8, 0)", UNKNOWN).due("side(0, 0, 16)", UNKNOWN).due("side(6, 8, 0)", UNKNOWN);
        x.due("least(8, 8, 15, 2)", UNKNOWN).due("least(1, 1, 16, 0)", UNKNOWN).due("least(0, 1, 16, 2)", UNKNOWN);
        x.due("least(0, 8, 15, 0)", UNKNOWN).due("least(1, 1, 15, 0)", OUTSIDE).due("least(0, 1, 15, 2)", OUTSIDE);
        x.due("least(0, 1, 15, 0)", FULL);
        x.due("see(16, 1, 1, 2)", UNKNOWN).due("see(0, 8, 8, 2)", UNKNOWN).due("see(0, 1, 8, 0)", UNKNOWN);
        x.due("see(0, 1, 1, 0)", OUTSIDE).due("see(0, 1, 2, 2)", OUTSIDE).due("see(0, 1, 2, 0)", FULL);
        x.due("missing(2)", OUTSIDE).due("missing(-1)", OUTSIDE).due("missing(0)", FULL);
        x.fraction("share(16, 15, #)", UNKNOWN, UNKNOWN).fraction("share(0, 16, #)", UNKNOWN, UNKNOWN);
        x.fraction("share(0, 15, #)", FULL, FULL);
        x.fraction("fails(8, 0, 15, 11, #)", UNKNOWN, UNKNOWN).fraction("fails(0, 8, 15, 0, #)", UNKNOWN, UNKNOWN);
        x.fraction("fails(0, 1, 16, 11, #)", UNKNOWN, UNKNOWN).fraction("fails(0, 1, 15, 11, #)", OUTSIDE, OUTSIDE);
        x.fraction("fails(0, 1, 15, 10, #)", FULL, FULL);
        x.due("again(2)", UNKNOWN).due("again(0)", STATE);
    }

    private static void refusedChangesNothing() {
        Bounds.says("What is refused changes nothing.");
        Bounds x = rich();
        x.due("write(256)", OUTSIDE).due("span(4, 0)", UNKNOWN).due("span(0, 5)", OUTSIDE).due("node(0)", UNKNOWN);
        x.due("put(8, 0, 0, 0)", UNKNOWN).due("put(5, 5, 0, 0)", OUTSIDE).due("put(5, 6, 1, 0)", OUTSIDE);
        x.due("put(0, 1, 1, 5)", STATE).due("cut(4)", UNKNOWN).due("end(4, 0)", UNKNOWN).due("end(0, 16)", UNKNOWN);
        x.due("end(0, 1)", STATE).due("end(1, 0)", STATE).due("at(16, 0)", UNKNOWN).due("at(0, 5)", OUTSIDE);
        x.due("knot(8, 0, 0)", UNKNOWN).due("knot(0, 0, 3)", OUTSIDE).due("joined(0, 8, 0)", UNKNOWN);
        x.due("side(0, 8, 0)", UNKNOWN).due("side(0, 7, 0)", STATE).due("work(2)", OUTSIDE).due("when(8, 0)", UNKNOWN);
        x.due("bridges(16)", UNKNOWN).due("least(8, 0, 0, 0)", UNKNOWN).due("least(0, 0, 0, 0)", OUTSIDE);
        x.due("judge(4, 0)", OUTSIDE).due("judge(1, -1)", OUTSIDE).due("see(16, 0, 1, 0)", UNKNOWN);
        x.due("see(0, 1, 1, 0)", OUTSIDE).due("missing(2)", OUTSIDE).fraction("share(4, 0, #)", UNKNOWN, UNKNOWN);
        x.fraction("fails(0, 8, 0, 0, #)", UNKNOWN, UNKNOWN).fraction("fails(0, 1, 0, 11, #)", OUTSIDE, OUTSIDE);
        x.due("drawn(0)", OUTSIDE).due("drawn(17)", OUTSIDE).due("keep(2)", UNKNOWN).due("again(2)", UNKNOWN);
        x.due("count(6)", OUTSIDE);
        rich().write("L+01+").due("life()", STATE);
        rich().then("again(1)").due("undo()", STATE);
        Bounds.of("put(0, 1, 0, 3)", "end(0, 4)", "see(0, 1, 2, 1)", "seed(5)").due("again(0)", STATE);
        full().due("write(76)", FULL).due("put(6, 7, 0, 0)", FULL).due("least(0, 1, 15, 1)", FULL)
            .due("see(0, 0, 1, 1)", FULL).due("missing(1)", FULL).fraction("share(0, 15, #)", FULL, FULL)
            .fraction("fails(0, 1, 15, 5, #)", FULL, FULL);
    }

    private static void nothingIsChanged() {
        Bounds.says("In what follows nothing is changed.");
        String[] calls = {"fault()", "span(0, 4)", "node(1)", "at(5, 3)", "knot(4, 5, 1)", "joined(0, 2, 5)",
            "side(0, 2, 5)", "work(0)", "work(1)", "when(0, 2)", "bridges(5)", "least(0, 2, 5, 1)", "missing(0)",
            "missing(1)", "share(1, 5, true)", "fails(0, 2, 5, 5, false)", "count(3)", "judge(1, 15600)",
            "judge(1, 20000)", "judge(1, 30000)", "judge(3, 200002000015600)", "judge(3, 156000000015600)"};
        Bounds x = rich();
        Bounds y = full();
        for (String call : calls) {
            x.leaves(call);
            y.leaves(call);
        }
    }

    private static void constants() {
        Bounds.says("NONE is -9.");
        Bounds.same("UNKNOWN", TimeLinks.UNKNOWN, -1);
        Bounds.same("OUTSIDE", TimeLinks.OUTSIDE, -2);
        Bounds.same("STATE", TimeLinks.STATE, -3);
        Bounds.same("FULL", TimeLinks.FULL, -4);
        Bounds.same("NONE", TimeLinks.NONE, -9);
    }

    private static void fractions() {
        Bounds.says("FRACTIONS are told above (upper = true), below, in least terms");
        Bounds x = Bounds.of("put(0, 1, 0, 15)", "put(1, 2, 0, 15)", "put(0, 2, 1, 15)");
        x.fraction("fails(0, 1, 0, 2, #)", 4, 5).fraction("fails(0, 1, 0, 5, #)", 1, 2);
        x.fraction("fails(0, 1, 0, 3, #)", 7, 10).fraction("fails(0, 2, 0, 3, #)", 49, 100);
        x.fraction("fails(0, 2, 0, 0, #)", 1, 1).fraction("fails(0, 2, 0, 10, #)", 0, 1);
        x.fraction("share(0, 1, #)", 2, 3).fraction("share(0, 0, #)", 1, 1).fraction("share(2, 0, #)", 0, 1);
        Bounds.says("refusals of them are told likewise");
        x.fraction("share(3, 0, #)", UNKNOWN, UNKNOWN).fraction("share(0, 16, #)", UNKNOWN, UNKNOWN);
        x.fraction("fails(8, 1, 0, 0, #)", UNKNOWN, UNKNOWN).fraction("fails(0, 1, 0, 11, #)", OUTSIDE, OUTSIDE);
        Bounds y = Bounds.living(Bounds.SIXTEEN);
        y.fraction("share(0, 8, #)", FULL, FULL).fraction("fails(0, 1, 8, 5, #)", FULL, FULL);
    }

    public static void main(String[] args) {
        atMost512Calls();
        knots();
        times();
        spans();
        nodes();
        slots();
        otherNumbers();
        firstThatACallNames();
        refusedChangesNothing();
        nothingIsChanged();
        constants();
        fractions();
        Bounds.end();
    }
}
