/** The bounds of SLOTS and of what is counted: promises 28 to 30. */
public final class BoundsOfSlotsTest {
    private static final int UNKNOWN = Bounds.UNKNOWN, OUTSIDE = Bounds.OUTSIDE, STATE = Bounds.STATE;

    private static void keep() {
        Bounds.says("They are kept: how many SPANS.");
        Bounds x = new Bounds();
        x.due("keep(0)", 0).due("keep(1)", 0).due("again(0)", 0).due("again(1)", 0);
        x.write(Bounds.SIXTEEN).then("life()").due("keep(1)", 16).due("cut(0)", 15).due("keep(0)", 15);
        x.due("again(1)", 16).isSpan(0, "010f").isSpan(15, "25ff").due("again(0)", 15).isSpan(0, "021f");
        Bounds.says("(what is kept anew is kept instead, in that SLOT alone; THE ROW of ACTS stays)");
        Bounds y = Bounds.of("put(0, 1, 0, 0)", "keep(0)", "keep(1)", "put(2, 3, 5, 6)");
        y.due("keep(0)", 2).due("count(4)", 2).due("undo()", 1).due("again(0)", 2).isSpan(1, "2356");
        y.due("again(1)", 1).isSpan(0, "0100").due("span(1, 0)", UNKNOWN);
        Bounds.says("keep: UNKNOWN.");
        y.each("-1 2 min max", "keep(#)", UNKNOWN).due("again(0)", 2).due("again(1)", 1);
    }

    private static void again() {
        Bounds.says("They are as they were kept: how many SPANS.");
        Bounds x = Bounds.of("put(0, 1, 0, 5)", "put(6, 7, 15, 15)", "keep(1)", "end(0, 9)", "cut(1)", "put(2, 3, 0, 0)");
        x.due("again(1)", 2).isSpan(0, "0105").isSpan(1, "67ff").due("span(2, 0)", UNKNOWN);
        x.due("cut(0)", 1).due("end(0, 15)", STATE).due("again(1)", 2).isSpan(0, "0105").due("again(1)", 2);
        Bounds none = Bounds.of("keep(0)", "put(0, 1, 0, 5)").due("again(0)", 0).due("count(1)", 0).due("put(0, 1, 5, 5)", 0);
        none.due("again(0)", 0).due("span(0, 0)", UNKNOWN);
        Bounds.says("(THE ROW of ACTS is empty when one goes on)");
        Bounds row = Bounds.of("put(0, 1, 0, 0)", "keep(0)", "put(2, 3, 5, 6)").due("count(4)", 2).due("again(0)", 1);
        row.due("count(4)", 0).due("undo()", STATE).due("cut(0)", 0).due("count(4)", 1).due("undo()", 0).isSpan(0, "0100");
        Bounds full = Bounds.of("put(0, 1, 0, 0)", "keep(0)");
        for (int i = 0; i < 7; i++) {
            full.then("end(0, 1)", "end(0, 0)");
        }
        full.due("count(4)", 14).due("again(0)", 1).due("count(4)", 0).due("undo()", STATE);
        Bounds.says("SLOTS keep SPANS (alone: THE TEXT, SEEN, THE SEED stay as they are)");
        Bounds rest = Bounds.of("keep(0)", "see(0, 0, 1, 1)", "seed(9)", "write(76)", "write(46)");
        rest.due("again(0)", 0).due("count(0)", 2).due("fault()", -9).due("count(5)", 1).due("missing(0)", 16);
        rest.due("seed(0)", 9).due("life()", 0);
        Bounds.says("again: UNKNOWN");
        x.each("-1 2 min max", "again(#)", UNKNOWN);
        new Bounds().each("-1 2 min max", "again(#)", UNKNOWN);
        Bounds.says("STATE: none were kept.");
        new Bounds().due("again(0)", STATE).due("again(1)", STATE);
        x.due("again(0)", STATE);
        Bounds.of("put(0, 1, 0, 0)", "keep(0)").due("again(1)", STATE).due("again(0)", 1);
        Bounds.of("keep(0)", "keep(1)").write("L").due("life()", 0).due("again(0)", STATE).due("again(1)", STATE)
            .due("keep(1)", 0).due("again(0)", STATE).due("again(1)", 0);
    }

    private static void count() {
        Bounds.says("0 letters of THE TEXT");
        new Bounds().due("count(0)", 0);
        Bounds.written("X".repeat(64)).due("count(0)", 64).due("write(0)", Bounds.FULL).due("count(0)", 64);
        Bounds.says("1 SPANS");
        new Bounds().due("count(1)", 0);
        Bounds.living(Bounds.SIXTEEN).due("count(1)", 16);
        Bounds.says("2 TIMES that any SPAN fills (bits)");
        new Bounds().due("count(2)", 0);
        Bounds.of("put(0, 1, 0, 0)").due("count(2)", 1).due("put(0, 2, 0, 1)", 1).due("count(2)", 3);
        Bounds.of("put(0, 1, 15, 15)").due("count(2)", 32768).due("put(0, 1, 0, 14)", 1).due("count(2)", 65535);
        Bounds.living(Bounds.SIXTEEN).due("count(2)", 65535).due("cut(0)", 15).due("count(2)", 65534);
        Bounds.says("3 how many TIMES all SPANS together have");
        new Bounds().due("count(3)", 0);
        Bounds.of("put(0, 1, 7, 7)").due("count(3)", 1).due("put(0, 2, 7, 8)", 1).due("count(3)", 3);
        Bounds.living(Bounds.SIXTEEN).due("count(3)", 136);
        Bounds most = new Bounds();
        for (String pair : "01 02 03 04 05 06 07 12 13 14 15 16 17 23 24 25".split(" ")) {
            most.then("put(" + pair.charAt(0) + ", " + pair.charAt(1) + ", 0, 15)");
        }
        most.due("count(3)", 256).due("count(2)", 65535);
        Bounds.says("4 ACTS in the row");
        new Bounds().due("count(4)", 0);
        most.due("count(4)", 14).due("undo()", 13).due("count(4)", 13).due("count(3)", 240);
        Bounds.says("5 SEEN");
        Bounds seen = new Bounds().due("count(5)", 0);
        for (int i = 1; i <= 6; i++) {
            seen.then("see(0, 0, 1, 1)").due("count(5)", i);
        }
        seen.due("see(0, 0, 1, 1)", Bounds.FULL).due("count(5)", 6);
        Bounds.says("count: OUTSIDE.");
        new Bounds().each("-1 6 min max", "count(#)", OUTSIDE);
        most.each("-1 6 min max", "count(#)", OUTSIDE);
    }

    public static void main(String[] args) {
        keep();
        again();
        count();
        Bounds.end();
    }
}
