import java.util.List;

/** The bounds of THE TEXT, FAULTS, THE LIFE, SPANS and the NODES on which they LIE: promises 1 to 7. */
public final class BoundsOfLifeTest {
    private static final int UNKNOWN = Bounds.UNKNOWN, OUTSIDE = Bounds.OUTSIDE, STATE = Bounds.STATE;
    private static final int FULL = Bounds.FULL, NONE = Bounds.NONE;
    private static final String STAR_OF_SIX = "L+01+02+03+04+05+06";
    private static final String STAR = STAR_OF_SIX + "+07";

    private static void isFault(String text, int want) {
        Bounds.written(text).due("fault()", want);
    }

    /** A TEXT with a FAULT is no LIFE either. */
    private static void isNoLife(String text, int want) {
        Bounds.written(text).due("fault()", want).due("life()", STATE);
    }

    private static Bounds isLife(String text, int spans) {
        return Bounds.written(text).due("fault()", NONE).due("life()", spans);
    }

    private static void aNewObject() {
        Bounds.says("No spans. At first there is no SPAN.");
        Bounds x = new Bounds();
        x.due("count(1)", 0).due("count(2)", 0).due("count(3)", 0).due("span(0, 0)", UNKNOWN).due("cut(0)", UNKNOWN);
        for (int node = 1; node <= 31; node++) {
            x.due("node(" + node + ")", 0);
        }
        for (int time = 0; time <= 15; time++) {
            x.due("at(" + time + ", 0)", 8).due("at(" + time + ", 1)", 0);
        }
        Bounds.says("(A new object: THE TEXT is empty, no ACT, nothing SEEN, THE SEED 0, nothing kept)");
        new Bounds().due("count(0)", 0).due("count(4)", 0).due("count(5)", 0).due("fault()", 0).due("undo()", STATE)
            .due("again(0)", STATE).due("again(1)", STATE).due("seed(3)", 0).due("wipe()", 0).due("unsee()", 0);
    }

    private static void write() {
        Bounds.says("A letter (0 to 255) comes behind THE TEXT: how long it is. OUTSIDE");
        Bounds x = new Bounds();
        x.each("-1 256 min max", "write(#)", OUTSIDE).due("write(0)", 1).due("write(255)", 2);
        x.each("-1 256 min max", "write(#)", OUTSIDE).due("count(0)", 2);
        // 332 is L and 256 more: no part of a number that is too large is a letter
        new Bounds().due("write(332)", OUTSIDE).due("write(-180)", OUTSIDE).due("count(0)", 0);
        Bounds.says("FULL: there are 64. THE TEXT is letters (64 at most).");
        Bounds y = Bounds.written(".".repeat(63));
        y.due("count(0)", 63).due("write(46)", 64).due("write(46)", FULL).due("write(0)", FULL).due("write(255)", FULL);
        y.due("write(256)", OUTSIDE).due("count(0)", 64).due("wipe()", 64).due("write(46)", 1);
    }

    private static void wipe() {
        Bounds.says("THE TEXT is empty: how long it was.");
        new Bounds().due("wipe()", 0).due("wipe()", 0).due("write(76)", 1).due("wipe()", 1).due("wipe()", 0)
            .due("count(0)", 0).due("fault()", 0).due("life()", STATE);
        Bounds x = Bounds.living("L+01").then("put(2, 3, 0, 0)", "keep(0)", "see(0, 1, 2, 1)", "seed(8)");
        x.due("wipe()", 4).due("count(1)", 2).due("count(4)", 1).due("count(5)", 1).due("again(0)", 2).due("seed(0)", 8);
    }

    private static void headOfALife() {
        Bounds.says("A LIFE is a TEXT: L, then EVENTS, none or more");
        isLife("L", 0).due("count(1)", 0);
        isNoLife("", 0);
        isNoLife("K", 0);
        isNoLife("M", 0);
        isNoLife("l", 0);
        isNoLife("+01", 0);
        isNoLife(".L", 0);
        isNoLife("LL", 1);
        isNoLife(String.valueOf((char) 0), 0);
        isNoLife("L" + (char) 0, 1);
        isNoLife("L" + (char) 255, 1);
    }

    private static void sixteenEvents() {
        Bounds.says("EVENTS, none or more (16 at most)");
        isLife("L" + ".".repeat(15), 0);
        isLife("L" + ".".repeat(16), 0);
        isNoLife("L" + ".".repeat(17), 17);
        isNoLife("L" + ".".repeat(16) + "+", 17);
        isNoLife("L" + ".".repeat(16) + "+01", 17);
        isNoLife("L" + ".".repeat(16) + "X", 17);
        isLife(Bounds.SIXTEEN, 16);
        isNoLife(Bounds.SIXTEEN + ".", 49);
        isNoLife(Bounds.SIXTEEN + "-01", 49);
        isNoLife(Bounds.SIXTEEN + "+26", 49);
        isLife("L" + "+01-01".repeat(8), 8);
        isNoLife("L" + "+01-01".repeat(8) + "+", 49);
        isNoLife("L" + "+01-01".repeat(7) + ".+", 45);
        Bounds.says("the first at TIME 0, each next one at the next TIME");
        isLife("L+01", 1).isSpan(0, "010f");
        isLife("L+01+02", 2).isSpan(1, "021f");
        isLife("L" + ".".repeat(14) + "+01", 1).isSpan(0, "01ef");
        isLife("L" + ".".repeat(15) + "+67", 1).isSpan(0, "67ff");
        isLife("L.+01..-01", 1).isSpan(0, "0113");
    }

    private static void plus() {
        Bounds.says("KNOTS a and b (two unlike ones, 0 to 7) are LINKED, who are not LINKED by then");
        isLife("L+07", 1).isSpan(0, "070f");
        isLife("L+70", 1).isSpan(0, "070f");
        isNoLife("L+00", 3);
        isNoLife("L+77", 3);
        isNoLife("L+/", 2);
        isNoLife("L+8", 2);
        isNoLife("L+81", 2);
        isNoLife("L+0/", 3);
        isNoLife("L+08", 3);
        isNoLife("L+01+01", 6);
        isNoLife("L+01+10", 6);
        isNoLife("L+01.+01", 7);
        isLife("L+01-01+01", 2).isSpan(0, "0100").isSpan(1, "012f");
    }

    private static void minus() {
        Bounds.says("from this TIME on they are not, who were LINKED by then (told either way round)");
        isLife("L+01-01", 1).isSpan(0, "0100");
        isLife("L+01-10", 1).isSpan(0, "0100");
        isLife("L+10-01", 1).isSpan(0, "0100");
        isNoLife("L+01-02", 6);
        isNoLife("L+01-01-", 7);
        isNoLife("L+01+02-01-01", 12);
        isNoLife("L+01+23-02", 9);
        isNoLife("L+01-/", 5);
        isNoLife("L+01-8", 5);
        isNoLife("L+01-08", 6);
    }

    private static void dot() {
        Bounds.says(". nothing");
        isLife("L.", 0);
        isLife("L..+01", 1).isSpan(0, "012f");
        // the signs next to + - and . are none
        isNoLife("L*", 1);
        isNoLife("L,", 1);
        isNoLife("L/", 1);
        isNoLife("L ", 1);
        isNoLife("L0", 1);
    }

    private static void firstFault() {
        Bounds.says("the place of the first letter by which THE TEXT can be no LIFE, whatever came behind it");
        isFault("X", 0);
        isFault("XL+00", 0);
        isFault("LX+00", 1);
        isFault("L+0X+00-", 3);
        isFault("L+00+8", 3);
        isFault("L+8", 2);
        isFault("L+8X", 2);
        isFault("L.+01-2.", 6);
        Bounds.says("its length set aside");
        isFault("L" + ".".repeat(63), 17);
        isFault("X" + ".".repeat(63), 0);
        isFault(Bounds.SIXTEEN + "+".repeat(15), 49);
        isFault("L+01-" + "0".repeat(59), 6);
    }

    private static void namedFaults() {
        Bounds.says("so a - while none are LINKED is one");
        isFault("L-", 1);
        isFault("L-01", 1);
        isFault("L.-", 2);
        isFault("L+01-01-", 7);
        isFault("L+01-", 5);
        isFault("L+01+23-01-", 11);
        Bounds.says("a KNOT that is LINKED with all behind a +");
        isFault(STAR_OF_SIX + "+0", 21);
        isFault(STAR_OF_SIX + "+07", NONE);
        isFault(STAR_OF_SIX + "+01", 21);
        isFault(STAR + "+0", 23);
        isFault(STAR + "+00", 23);
        isFault(STAR + "+1", 24);
        isFault(STAR + "+10", 24);
        isFault(STAR + "-03+0", 27);
        isFault(STAR + "-03+03", NONE);
        isFault(STAR + "-03+04", 27);
        isFault("L+70+71+72+73+74+75+76+7", 23);
        Bounds.says("with none behind a -");
        isFault("L+01-2", 5);
        isFault("L+01-0", 6);
        isFault("L+01-1", 6);
        isFault("L+01+12-01-0", 11);
        isFault("L+01+12-01-1", 12);
        Bounds.says("and else, of a pair that can not be, the second KNOT");
        isFault("L+00", 3);
        isFault("L+0X", 3);
        isFault("L+01+10", 6);
        isFault("L+01-00", 6);
        isFault("L+01-02", 6);
        isFault("L+01+23-03", 9);
    }

    private static void atItsEnd() {
        Bounds.says("its length, if it is only not at its end");
        isNoLife("", 0);
        isNoLife("L+", 2);
        isNoLife("L+7", 3);
        isNoLife("L+01-", 5);
        isNoLife("L+01-1", 6);
        isNoLife("L" + ".".repeat(15) + "+", 17);
        isNoLife("L" + ".".repeat(15) + "+0", 18);
        isNoLife(Bounds.SIXTEEN.substring(0, 48), 48);
        isNoLife(Bounds.SIXTEEN.substring(0, 47), 47);
        Bounds.says("NONE: none.");
        isFault("L", NONE);
        isFault(Bounds.SIXTEEN, NONE);
        isFault("L" + ".".repeat(16), NONE);
        Bounds.says("FAULT; NONE. (letters that were wiped are no longer there)");
        Bounds x = Bounds.written("L+01+02").due("fault()", NONE).write("L+0").due("fault()", 3);
        x.write("L+").due("fault()", 2).write("").due("fault()", 0).write("L-").due("fault()", 1);
        x.write("L+01").due("fault()", NONE);
    }

    private static void life() {
        Bounds.says("THE TEXT is THE LIFE: how many SPANS.");
        Bounds x = Bounds.of("put(3, 4, 0, 15)").write("L");
        x.due("life()", 0).due("count(1)", 0).due("count(0)", 1).due("life()", 0);
        x.write(Bounds.SIXTEEN).due("life()", 16).due("count(1)", 16).due("count(0)", 49).due("life()", 16);
        // SPANS of the same KNOTS that were there are gone, whatever their numbers were
        Bounds old = Bounds.of("put(0, 1, 0, 0)", "put(0, 1, 2, 2)", "put(0, 1, 4, 4)", "put(0, 1, 6, 6)");
        old.write("L+01-01+01-01").due("life()", 2).isSpan(0, "0100").isSpan(1, "0122").due("count(1)", 2);
        Bounds.says("THE ROW of ACTS is empty, what was kept is gone");
        Bounds y = Bounds.of("put(3, 4, 0, 15)", "keep(0)", "keep(1)", "put(3, 5, 0, 15)").write("L+01");
        y.due("life()", 1).due("count(4)", 0).due("undo()", STATE).due("again(0)", STATE).due("again(1)", STATE);
        y.due("put(0, 2, 0, 0)", 1).due("undo()", 0).due("undo()", STATE).isSpan(0, "010f");
        Bounds full = Bounds.of("put(0, 1, 0, 0)", "keep(0)");
        for (int i = 0; i < 7; i++) {
            full.then("end(0, 1)", "end(0, 0)");
        }
        full.due("count(4)", 14).write("L").due("life()", 0).due("count(4)", 0).due("undo()", STATE);
        Bounds.says("SEEN, THE SEED stay");
        Bounds z = Bounds.of("see(0, 1, 2, 1)", "seed(-5)").write("L+01");
        z.due("life()", 1).due("count(5)", 1).due("missing(1)", 20000).due("seed(0)", -5);
        Bounds.says("STATE: a FAULT.");
        Bounds w = Bounds.of("put(3, 4, 0, 15)", "keep(0)", "end(0, 3)");
        w.due("life()", STATE).write("L+01-").due("life()", STATE).write("L+00").due("life()", STATE);
        w.write("L" + ".".repeat(17)).due("life()", STATE).write("L" + ".".repeat(63)).due("life()", STATE);
        w.isSpan(0, "3403").due("undo()", 1).isSpan(0, "340f").due("again(0)", 1);
    }

    private static void lifeOfASpan() {
        Bounds.says("the first and the last TIME at which they are LINKED (which was not ended: 15), numbered as LINKS came");
        isLife("L+67+01+34-67+07-01", 4).isSpan(0, "6702").isSpan(1, "0114").isSpan(2, "342f").isSpan(3, "074f");
        isLife("L+01+02-01+01", 3).isSpan(0, "0101").isSpan(1, "021f").isSpan(2, "013f");
        Bounds.says("a SPAN that begins at a TIME ends ahead of that of its EVENT -");
        isLife("L+01-01", 1).isSpan(0, "0100");
        isLife("L+01" + ".".repeat(14) + "-01", 1).isSpan(0, "010e");
        isLife("L" + ".".repeat(14) + "+01-01", 1).isSpan(0, "01ee");
        isLife("L" + "+01-10".repeat(8), 8).isSpan(0, "0100").isSpan(3, "0166").isSpan(7, "01ee");
        Bounds.says("SPANS are 16 at most.");
        isLife(Bounds.SIXTEEN, 16).isSpan(15, "25ff").due("put(6, 7, 0, 15)", FULL);
        isLife(Bounds.SIXTEEN.substring(0, 46), 15).due("put(6, 7, 0, 15)", 15).due("put(5, 7, 0, 15)", FULL);
    }

    private static void span() {
        Bounds.says("Of a SPAN the lesser KNOT (what = 0), the other one (1), the first TIME (2), the last one (3)");
        Bounds x = Bounds.of("put(7, 0, 0, 15)", "put(6, 7, 15, 15)");
        x.due("span(0, 0)", 0).due("span(0, 1)", 7).due("span(0, 2)", 0).due("span(0, 3)", 15);
        x.due("span(1, 0)", 6).due("span(1, 1)", 7).due("span(1, 2)", 15).due("span(1, 3)", 15);
        Bounds.says("on how many NODES it LIES (4)");
        String[] told = {"0 15 1", "1 15 4", "0 14 4", "1 14 6", "7 8 2", "0 0 1", "15 15 1", "0 7 1", "8 15 1", "2 13 4",
            "1 2 2", "5 10 4", "6 9 2"};
        for (String one : told) {
            String[] f = one.split(" ");
            Bounds.of("put(0, 1, " + f[0] + ", " + f[1] + ")").due("span(0, 4)", Integer.parseInt(f[2]));
        }
        Bounds.says("span: UNKNOWN; OUTSIDE.");
        x.each("-1 2 16 min max", "span(#, 0)", UNKNOWN).each("-1 5 min max", "span(1, #)", OUTSIDE);
        x.each("-1 2 16 min max", "span(#, 5)", UNKNOWN);
        new Bounds().due("span(0, 0)", UNKNOWN).due("span(0, 5)", UNKNOWN);
    }

    /** Each NODE by its own SPAN: the TIMES that it fills, told by its level. */
    private static void node() {
        Bounds.says("1 fills TIMES 0 to 15; 2 v fills the first half, 2 v and 1 the other half (so NODE 16 and t fills TIME t alone)");
        for (int node = 1; node <= 31; node++) {
            int wide = 16 / Integer.highestOneBit(node);
            int from = (node - Integer.highestOneBit(node)) * wide;
            Bounds x = Bounds.of("put(0, 1, " + from + ", " + (from + wide - 1) + ")");
            for (int other = 1; other <= 31; other++) {
                Bounds.same("node(" + other + ") of " + node, x.ask("node(" + other + ")"), other == node ? 1 : 0);
            }
            x.due("span(0, 4)", 1).due("work(0)", 1);
        }
        Bounds.says("A SPAN LIES on a NODE that it fills whole, if it does not fill the one above that whole.");
        isLaidOn("put(0, 1, 1, 15)", "17 9 5 3");
        isLaidOn("put(0, 1, 0, 14)", "2 6 14 30");
        isLaidOn("put(0, 1, 1, 14)", "17 9 5 6 14 30");
        isLaidOn("put(0, 1, 7, 8)", "23 24");
        Bounds.says("SPANS that LIE on a NODE (bits).");
        Bounds y = Bounds.living(Bounds.SIXTEEN);
        y.due("node(1)", 1).due("node(3)", 510).due("node(31)", 32768).due("node(2)", 0).due("node(16)", 0);
        Bounds all = new Bounds();
        for (int i = 0; i < 16; i++) {
            all.then("put(" + (i < 7 ? 0 : i < 13 ? 1 : 2) + ", " + (i < 7 ? i + 1 : i < 13 ? i - 5 : i - 10) + ", 0, 15)");
        }
        all.due("node(1)", 65535).due("node(2)", 0).due("node(31)", 0);
        Bounds.says("node: UNKNOWN.");
        all.each("0 -1 32 min max", "node(#)", UNKNOWN);
    }

    private static void isLaidOn(String put, String nodes) {
        Bounds x = Bounds.of(put);
        List<String> due = List.of(nodes.split(" "));
        for (int node = 1; node <= 31; node++) {
            x.due("node(" + node + ")", due.contains(String.valueOf(node)) ? 1 : 0);
        }
        x.due("span(0, 4)", due.size()).due("work(0)", due.size());
    }

    public static void main(String[] args) {
        aNewObject();
        write();
        wipe();
        headOfALife();
        sixteenEvents();
        plus();
        minus();
        dot();
        firstFault();
        namedFaults();
        atItsEnd();
        life();
        lifeOfASpan();
        span();
        node();
        Bounds.end();
    }
}
