/** The bounds of PUT, CUT, ENDED and of THE ROW of ACTS: promises 8 to 11. */
public final class BoundsOfActsTest {
    private static final int UNKNOWN = Bounds.UNKNOWN, OUTSIDE = Bounds.OUTSIDE, STATE = Bounds.STATE;
    private static final int FULL = Bounds.FULL;

    private static void put() {
        Bounds.says("PUT: a SPAN more, behind those that are there, of two unlike KNOTS (the lesser one first)");
        Bounds x = new Bounds();
        x.due("put(7, 0, 15, 15)", 0).isSpan(0, "07ff").due("put(0, 7, 0, 14)", 1).isSpan(0, "07ff").isSpan(1, "070e");
        x.due("put(2, 1, 0, 0)", 2).isSpan(2, "1200").due("count(1)", 3).due("count(4)", 3);
        Bounds.says("put: its number");
        Bounds y = new Bounds();
        for (int i = 0; i < 16; i++) {
            y.due("put(0, 1, " + i + ", " + i + ")", i);
        }
        y.due("count(1)", 16).due("count(3)", 16).due("count(2)", 65535);
        y.due("cut(7)", 15).due("put(0, 1, 7, 7)", 15).isSpan(15, "0177");
    }

    private static void putUnknown() {
        Bounds.says("UNKNOWN: a, b, from, to");
        Bounds x = new Bounds();
        x.each(Bounds.NO_KNOTS, "put(#, 0, 0, 0)", UNKNOWN).each(Bounds.NO_KNOTS, "put(0, #, 0, 0)", UNKNOWN);
        x.each(Bounds.NO_KNOTS, "put(#, #, 0, 0)", UNKNOWN).each(Bounds.NO_TIMES, "put(0, 1, #, 0)", UNKNOWN);
        x.each(Bounds.NO_TIMES, "put(0, 1, 15, #)", UNKNOWN).each(Bounds.NO_TIMES, "put(0, 1, #, #)", UNKNOWN);
        x.each(Bounds.NO_TIMES, "put(3, 3, 0, #)", UNKNOWN).due("count(1)", 0).due("count(4)", 0);
        x.due("put(0, 1, 0, 0)", 0).due("put(6, 7, 15, 15)", 1);
    }

    private static void putOutside() {
        Bounds.says("OUTSIDE: both KNOTS are one, to is less than from");
        Bounds x = new Bounds();
        for (int knot = 0; knot < 8; knot++) {
            x.due("put(" + knot + ", " + knot + ", 0, 15)", OUTSIDE);
        }
        x.due("put(0, 1, 1, 0)", OUTSIDE).due("put(0, 1, 15, 14)", OUTSIDE).due("put(0, 1, 15, 0)", OUTSIDE);
        x.due("put(4, 4, 1, 0)", OUTSIDE).due("count(4)", 0);
        Bounds.says("from a TIME to one that is no less");
        x.due("put(0, 1, 15, 15)", 0).due("put(0, 1, 0, 0)", 1).due("put(0, 1, 1, 14)", 2).due("put(0, 1, 8, 7)", OUTSIDE);
    }

    private static void putState() {
        Bounds.says("STATE: there is a TIME in common");
        Bounds x = Bounds.of("put(2, 5, 4, 9)");
        String[] common = {"0, 4", "4, 4", "9, 9", "9, 15", "5, 8", "0, 15", "4, 9", "3, 10"};
        for (String times : common) {
            x.due("put(2, 5, " + times + ")", STATE).due("put(5, 2, " + times + ")", STATE);
        }
        x.due("count(1)", 1).due("count(4)", 1);
        Bounds.says("that has no TIME in common with another SPAN of these two");
        x.due("put(5, 2, 0, 3)", 1).due("put(2, 5, 10, 15)", 2).due("put(2, 5, 3, 3)", STATE).due("put(2, 5, 10, 10)", STATE);
        x.due("put(2, 4, 4, 9)", 3).due("put(1, 5, 4, 9)", 4).due("cut(0)", 4).due("put(2, 5, 4, 9)", 4);
    }

    private static void putFull() {
        Bounds.says("FULL: there are 16.");
        Bounds x = Bounds.living(Bounds.SIXTEEN.substring(0, 46));
        x.due("count(1)", 15).due("put(6, 7, 0, 15)", 15).due("put(3, 7, 0, 0)", FULL).due("count(1)", 16);
        x.due("count(4)", 1).due("cut(0)", 15).due("put(3, 7, 0, 0)", 15).due("put(3, 7, 1, 1)", FULL);
        x.due("undo()", 2).due("put(3, 7, 0, 0)", 15).due("put(4, 7, 0, 0)", FULL);
        Bounds.says("put: of several the first");
        x.due("put(3, 7, 0, 0)", STATE).due("put(3, 3, 0, 0)", OUTSIDE).due("put(3, 7, 1, 0)", OUTSIDE);
        x.due("put(3, 8, 1, 0)", UNKNOWN).due("put(3, 3, 16, 0)", UNKNOWN);
    }

    private static void cut() {
        Bounds.says("CUT: how many SPANS are left.");
        Bounds x = Bounds.living(Bounds.SIXTEEN);
        for (int left = 15; left >= 0; left--) {
            x.due("cut(" + left + ")", left);
        }
        x.due("count(1)", 0).due("cut(0)", UNKNOWN);
        Bounds.says("CUT: a SPAN is gone, those behind it have 1 less as their numbers");
        Bounds y = Bounds.of("put(0, 1, 0, 1)", "put(6, 7, 2, 3)", "put(2, 3, 4, 5)", "put(4, 5, 6, 7)");
        y.due("cut(1)", 3).isSpan(0, "0101").isSpan(1, "2345").isSpan(2, "4567").due("span(3, 0)", UNKNOWN);
        y.due("cut(2)", 2).isSpan(0, "0101").isSpan(1, "2345").due("span(2, 0)", UNKNOWN);
        y.due("cut(0)", 1).isSpan(0, "2345").due("span(1, 0)", UNKNOWN).due("cut(0)", 0).due("count(4)", 8);
        Bounds z = Bounds.living(Bounds.SIXTEEN).due("cut(0)", 15).isSpan(0, "021f").isSpan(14, "25ff");
        z.due("put(0, 1, 0, 0)", 15).isSpan(15, "0100");
        Bounds.says("cut: UNKNOWN.");
        new Bounds().each("-1 0 1 min max", "cut(#)", UNKNOWN).due("count(4)", 0);
        Bounds.living(Bounds.SIXTEEN).each("-1 16 min max", "cut(#)", UNKNOWN).due("cut(15)", 15).due("cut(15)", UNKNOWN);
    }

    private static void end() {
        Bounds.says("ENDED: its last TIME as it was.");
        Bounds x = Bounds.of("put(0, 1, 5, 9)");
        x.due("end(0, 15)", 9).isSpan(0, "015f").due("end(0, 5)", 15).isSpan(0, "0155").due("end(0, 6)", 5);
        x.isSpan(0, "0156").due("count(4)", 4);
        Bounds zero = Bounds.of("put(0, 1, 0, 0)").due("end(0, 15)", 0).due("end(0, 0)", 15).due("count(4)", 3);
        zero.isSpan(0, "0100");
        Bounds.says("end: UNKNOWN: span, time");
        x.each("-1 1 16 min max", "end(#, 6)", UNKNOWN).each(Bounds.NO_TIMES, "end(0, #)", UNKNOWN);
        x.due("end(1, 16)", UNKNOWN).due("count(4)", 4).isSpan(0, "0156");
        Bounds.says("STATE: it is so");
        x.due("end(0, 6)", STATE).due("end(0, 7)", 6).due("end(0, 7)", STATE).due("count(4)", 5);
        Bounds.of("put(0, 1, 15, 15)").due("end(0, 15)", STATE).due("end(0, 14)", STATE);
    }

    private static void endState() {
        Bounds.says("the last TIME of a SPAN becomes another one, no less than its first one");
        Bounds x = Bounds.of("put(0, 1, 5, 9)");
        x.due("end(0, 4)", STATE).due("end(0, 0)", STATE).due("end(0, 5)", 9).due("end(0, 4)", STATE).isSpan(0, "0155");
        Bounds.says("so that it has no TIME in common with another SPAN of these two; or it can not be");
        Bounds y = Bounds.of("put(0, 1, 8, 10)", "put(0, 1, 2, 4)", "put(0, 2, 5, 5)", "put(1, 2, 5, 5)");
        y.due("end(1, 8)", STATE).due("end(1, 9)", STATE).due("end(1, 10)", STATE).due("end(1, 11)", STATE);
        y.due("end(1, 15)", STATE).due("count(4)", 4).due("end(1, 7)", 4).due("end(0, 15)", 10).due("end(0, 8)", 15);
        y.due("end(2, 15)", 5).due("end(3, 15)", 5).isSpan(0, "0188").isSpan(1, "0127").isSpan(2, "025f").isSpan(3, "125f");
        // a SPAN that another one follows at once can only end sooner
        Bounds z = Bounds.of("put(0, 1, 0, 6)", "put(0, 1, 7, 15)").due("end(0, 7)", STATE).due("end(0, 5)", 6);
        z.due("end(0, 6)", 5).due("end(1, 7)", 15).due("end(0, 7)", STATE).due("end(1, 6)", STATE);
    }

    private static void row() {
        Bounds.says("ACTS (PUT, CUT, ENDED) are a row (14 at most");
        Bounds x = new Bounds();
        for (int i = 0; i < 14; i++) {
            x.due("put(0, 1, " + i + ", " + i + ")", i).due("count(4)", i + 1);
        }
        for (int left = 13; left >= 0; left--) {
            x.due("undo()", left).due("count(1)", left);
        }
        x.due("undo()", STATE).due("count(1)", 0);
        Bounds.says("of more the first one is forgotten");
        Bounds y = new Bounds();
        for (int i = 0; i < 14; i++) {
            y.then("put(0, 1, " + i + ", " + i + ")");
        }
        y.due("put(0, 1, 14, 14)", 14).due("count(4)", 14).due("put(0, 1, 15, 15)", 15).due("count(4)", 14);
        for (int left = 13; left >= 0; left--) {
            y.due("undo()", left).due("count(1)", left + 2);
        }
        y.due("undo()", STATE).isSpan(0, "0100").isSpan(1, "0111").due("count(1)", 2).due("count(4)", 0);
        Bounds cuts = Bounds.living(Bounds.SIXTEEN);
        for (int left = 15; left >= 1; left--) {
            cuts.due("cut(0)", left);
        }
        cuts.due("count(4)", 14);
        for (int left = 13; left >= 0; left--) {
            cuts.due("undo()", left).due("count(1)", 15 - left);
        }
        cuts.due("undo()", STATE).isSpan(0, "021f").isSpan(14, "25ff").due("count(1)", 15);
        Bounds ends = Bounds.of("put(0, 1, 0, 15)");
        for (int time = 14; time >= 0; time--) {
            ends.due("end(0, " + time + ")", time + 1);
        }
        for (int left = 13; left >= 0; left--) {
            ends.due("undo()", left).due("span(0, 3)", 14 - left);
        }
        ends.due("undo()", STATE).isSpan(0, "010e");
    }

    private static void rowGoesOn() {
        Bounds.says("the last one can be undone. (a row that was full and is undone takes ACTS again)");
        Bounds x = Bounds.of("put(0, 1, 0, 0)");
        for (int i = 0; i < 10; i++) {
            x.then("end(0, 1)", "end(0, 0)");
        }
        x.due("count(4)", 14).due("undo()", 13).due("undo()", 12).due("put(2, 3, 0, 0)", 1).due("count(4)", 13);
        x.due("cut(0)", 1).due("count(4)", 14).due("end(0, 9)", 0).due("count(4)", 14).isSpan(0, "2309");
        x.due("undo()", 13).isSpan(0, "2300").due("undo()", 12).isSpan(0, "0100").isSpan(1, "2300");
        x.due("undo()", 11).due("count(1)", 1).isSpan(0, "0100").due("undo()", 10).isSpan(0, "0101");
    }

    private static void undo() {
        Bounds.says("The last ACT is undone: how many are left.");
        Bounds put = Bounds.living(Bounds.SIXTEEN.substring(0, 46)).then("put(6, 7, 3, 4)");
        put.due("undo()", 0).due("count(1)", 15).due("span(15, 0)", UNKNOWN).due("put(6, 7, 3, 4)", 15);
        Bounds cut = Bounds.living(Bounds.SIXTEEN).then("cut(0)", "cut(7)", "cut(13)").due("undo()", 2);
        cut.isSpan(13, "25ff").due("undo()", 1).isSpan(7, "138f").isSpan(14, "25ff").due("undo()", 0);
        cut.isSpan(0, "010f").isSpan(8, "138f").isSpan(15, "25ff").due("count(1)", 16).due("put(6, 7, 0, 0)", FULL);
        Bounds sooner = Bounds.of("put(0, 1, 0, 15)", "end(0, 0)").due("undo()", 1).isSpan(0, "010f");
        sooner.due("undo()", 0).due("count(1)", 0);
        Bounds later = Bounds.of("put(0, 1, 0, 0)", "end(0, 15)").due("undo()", 1).isSpan(0, "0100");
        later.due("put(0, 1, 1, 15)", 1);
        // undoing is no ACT: an undone one does not come back
        Bounds.of("put(0, 1, 0, 0)", "put(2, 3, 0, 0)").due("undo()", 1).due("count(4)", 1).due("undo()", 0)
            .due("undo()", STATE).due("count(1)", 0);
        // what is refused is no ACT
        Bounds.of("put(0, 1, 0, 0)").due("put(0, 1, 0, 0)", STATE).due("end(0, 0)", STATE).due("cut(1)", UNKNOWN)
            .due("undo()", 0).due("count(1)", 0);
        Bounds.says("undo: STATE: there is none.");
        new Bounds().due("undo()", STATE);
        Bounds.living("L+01").due("undo()", STATE).due("count(1)", 1);
        Bounds.of("put(0, 1, 0, 0)", "keep(0)", "again(0)").due("undo()", STATE).due("count(1)", 1);
    }

    public static void main(String[] args) {
        put();
        putUnknown();
        putOutside();
        putState();
        putFull();
        cut();
        end();
        endState();
        row();
        rowGoesOn();
        undo();
        Bounds.end();
    }
}
