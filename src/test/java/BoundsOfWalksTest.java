/** The bounds of THE WALK and of what is asked of it: promises 12 to 19. */
public final class BoundsOfWalksTest {
    private static final int UNKNOWN = Bounds.UNKNOWN, OUTSIDE = Bounds.OUTSIDE, STATE = Bounds.STATE;
    private static final int FULL = Bounds.FULL;

    /** SPANS through all TIMES of these pairs, told as "01 12". */
    private static Bounds always(String pairs) {
        return during(pairs, "0, 15");
    }

    private static Bounds during(String pairs, String times) {
        Bounds x = new Bounds();
        for (String pair : pairs.split(" ")) {
            x.then("put(" + pair.charAt(0) + ", " + pair.charAt(1) + ", " + times + ")");
        }
        return x;
    }

    private static void ring(int knots, int odd) {
        StringBuilder pairs = new StringBuilder();
        for (int k = 0; k < knots; k++) {
            pairs.append(k).append((k + 1) % knots).append(k + 1 < knots ? " " : "");
        }
        Bounds x = always(pairs.toString());
        x.due("at(0, 2)", odd).due("at(15, 2)", odd).due("side(0, 1, 0)", odd == 1 ? STATE : 1);
        x.due("side(0, 2, 0)", odd == 1 ? STATE : 0).due("side(0, 0, 0)", 0).due("bridges(0)", 0);
    }

    private static void walk() {
        Bounds.says("at first each KNOT is a ROOT of SIZE 1");
        Bounds none = new Bounds();
        for (int knot = 0; knot < 8; knot++) {
            none.due("knot(" + knot + ", 0, 0)", knot).due("knot(" + knot + ", 15, 1)", 0).due("knot(" + knot + ", 8, 2)", 1);
        }
        Bounds.says("From NODE 1 down to the NODE of that TIME alone");
        // by numbers alone 12 came first, and 1 were the ROOT
        Bounds.of("put(1, 2, 8, 15)", "put(0, 1, 0, 15)").due("knot(2, 8, 0)", 0).due("knot(2, 8, 1)", 1);
        Bounds.of("put(1, 2, 8, 8)", "put(0, 1, 8, 9)").due("knot(2, 8, 0)", 0).due("knot(1, 9, 0)", 0);
        Bounds.of("put(1, 2, 15, 15)", "put(0, 1, 14, 15)").due("knot(2, 15, 0)", 0).due("knot(2, 14, 0)", 2);
        Bounds.of("put(1, 2, 0, 0)", "put(0, 1, 0, 1)").due("knot(2, 0, 0)", 0).due("knot(2, 1, 0)", 2);
        Bounds.says("at each NODE SPANS that LIE on it, by numbers");
        always("12 01").due("knot(0, 0, 0)", 1).due("knot(2, 15, 0)", 1);
        always("01 12").due("knot(0, 0, 0)", 0).due("knot(2, 15, 0)", 0);
        always("12 01").then("cut(0)", "put(1, 2, 0, 15)").due("knot(2, 0, 0)", 0);
        Bounds.says("ROOTS of both KNOTS (one goes up from each)");
        always("01 23 13").due("knot(3, 0, 0)", 0).due("knot(3, 0, 1)", 2).due("knot(2, 0, 1)", 1).due("knot(1, 0, 1)", 1);
    }

    private static void bySize() {
        Bounds.says("that of less SIZE hangs below the other one then");
        always("45 04").due("knot(0, 0, 0)", 4).due("knot(0, 0, 1)", 1).due("knot(4, 0, 1)", 0);
        always("67 56 05").due("knot(0, 0, 0)", 6).due("knot(5, 0, 1)", 1);
        always("45 04 01").due("knot(1, 0, 0)", 4).due("knot(1, 0, 1)", 1);
        always("45 46 01 04").due("knot(1, 0, 0)", 4).due("knot(1, 0, 1)", 2).due("knot(0, 0, 1)", 1);
        Bounds.says("(of like ones the greater number below the lesser one)");
        always("70").due("knot(7, 0, 0)", 0).due("knot(0, 0, 1)", 0).due("knot(7, 0, 1)", 1);
        always("76").due("knot(7, 0, 0)", 6);
        always("45 04 12 13 03").due("knot(0, 0, 0)", 1).due("knot(0, 0, 1)", 2).due("knot(3, 0, 1)", 1);
        always("45 01 15").due("knot(5, 0, 0)", 0).due("knot(5, 0, 1)", 2).due("knot(4, 0, 1)", 1);
        always("67 47 23 13 03 12 57 26").due("knot(7, 0, 0)", 2).due("knot(7, 0, 1)", 2);
        Bounds.says("which has both SIZES");
        always("01 12 23 34 45 56 67").due("knot(7, 0, 2)", 8).due("knot(0, 0, 2)", 8).due("at(0, 4)", 8).due("at(0, 3)", 1);
        // 4 has SIZE 4 by then, so that 0 with SIZE 3 hangs below it
        always("01 02 45 46 47 14").due("knot(1, 0, 0)", 4).due("knot(1, 0, 1)", 2).due("knot(1, 0, 2)", 7);
        Bounds.says("if they are unlike");
        always("01 12 02").due("knot(2, 0, 2)", 3).due("at(0, 4)", 3).due("at(0, 0)", 6).due("at(0, 3)", 1);
        Bounds.says("(Nothing is shortened.) DEPTH of a KNOT: over how many KNOTS it hangs from its ROOT.");
        Bounds deep = always("01 23 02 45 67 46 04");
        deep.due("knot(7, 0, 0)", 0).due("knot(7, 0, 1)", 3).due("knot(7, 0, 1)", 3).due("knot(6, 0, 1)", 2);
        deep.due("knot(4, 0, 1)", 1).due("knot(0, 0, 1)", 0).due("at(0, 3)", 3).due("at(15, 3)", 3);
    }

    private static void at() {
        Bounds.says("At a TIME PARTS (what = 0)");
        new Bounds().due("at(0, 0)", 8).due("at(15, 0)", 8);
        Bounds tree = always("01 12 23 34 45 56 67").due("at(0, 0)", 1).due("at(15, 0)", 1);
        tree.due("put(0, 7, 0, 15)", 7).due("at(8, 0)", 1);
        Bounds.says("SPANS that live (1: bits)");
        Bounds x = Bounds.of("put(0, 1, 4, 6)", "put(0, 2, 6, 6)", "put(0, 1, 7, 7)");
        x.due("at(3, 1)", 0).due("at(4, 1)", 1).due("at(6, 1)", 3).due("at(7, 1)", 4).due("at(8, 1)", 0);
        Bounds.living(Bounds.SIXTEEN).due("at(0, 1)", 1).due("at(14, 1)", 32767).due("at(15, 1)", 65535);
        Bounds.says("PARTS that are ODD (2)");
        new Bounds().due("at(0, 2)", 0);
        always("01 12 02 34 45 35 67").due("at(0, 2)", 2).due("at(0, 0)", 3);
        always("01 12 02 34 45 35 03").due("at(0, 2)", 1);
        // an ODD PART hangs below one that is not, and the other way round
        always("01 02 03 04 56 67 57 05").due("at(0, 2)", 1).due("knot(5, 0, 0)", 0);
        always("01 12 02 34 04").due("at(0, 2)", 1);
        // an even ring behind an odd one leaves it ODD
        always("01 12 02 23 03").due("at(0, 2)", 1).due("side(0, 3, 0)", STATE);
        Bounds now = Bounds.of("put(0, 1, 0, 15)", "put(1, 2, 3, 9)", "put(0, 2, 5, 7)");
        now.due("at(4, 2)", 0).due("at(5, 2)", 1).due("at(7, 2)", 1).due("at(8, 2)", 0);
        Bounds.says("the greatest DEPTH (3)");
        new Bounds().due("at(0, 3)", 0);
        always("67").due("at(0, 3)", 1);
        always("01 23 02 45").due("at(0, 3)", 2);
        Bounds.says("how many KNOTS the greatest PART has (4)");
        new Bounds().due("at(0, 4)", 1).due("at(15, 4)", 1);
        always("67").due("at(0, 4)", 2);
        always("01 12 34 45 56").due("at(0, 4)", 4);
        Bounds.says("at: UNKNOWN; OUTSIDE.");
        x.each(Bounds.NO_TIMES, "at(#, 0)", UNKNOWN).each(Bounds.NO_TIMES, "at(#, 5)", UNKNOWN);
        x.each("-1 5 min max", "at(0, #)", OUTSIDE).each("-1 5 min max", "at(15, #)", OUTSIDE);
    }

    private static void knot() {
        Bounds.says("Of a KNOT at a TIME its ROOT (what = 0), DEPTH (1), how many are JOINED with it, itself too (2).");
        Bounds x = Bounds.of("put(0, 7, 3, 5)");
        x.due("knot(7, 2, 0)", 7).due("knot(7, 3, 0)", 0).due("knot(7, 5, 0)", 0).due("knot(7, 6, 0)", 7);
        x.due("knot(7, 2, 1)", 0).due("knot(7, 3, 1)", 1).due("knot(7, 5, 2)", 2).due("knot(7, 6, 2)", 1);
        always("01 02 03 04 05 06 07").due("knot(0, 0, 2)", 8).due("knot(7, 15, 2)", 8);
        Bounds.says("knot: UNKNOWN: both; OUTSIDE.");
        x.each(Bounds.NO_KNOTS, "knot(#, 0, 0)", UNKNOWN).each(Bounds.NO_TIMES, "knot(0, #, 0)", UNKNOWN);
        x.each(Bounds.NO_KNOTS, "knot(#, 16, 3)", UNKNOWN).each(Bounds.NO_TIMES, "knot(0, #, 3)", UNKNOWN);
        x.each("-1 3 min max", "knot(7, 15, #)", OUTSIDE).each("-1 3 min max", "knot(0, 0, #)", OUTSIDE);
    }

    private static void joined() {
        Bounds.says("1 if two KNOTS are JOINED at a TIME, 0.");
        Bounds x = Bounds.of("put(0, 1, 2, 7)", "put(1, 2, 5, 10)");
        x.due("joined(0, 1, 1)", 0).due("joined(0, 1, 2)", 1).due("joined(1, 0, 7)", 1).due("joined(0, 1, 8)", 0);
        x.due("joined(0, 2, 4)", 0).due("joined(0, 2, 5)", 1).due("joined(2, 0, 7)", 1).due("joined(0, 2, 8)", 0);
        x.due("joined(2, 3, 5)", 0);
        for (int knot = 0; knot < 8; knot++) {
            x.due("joined(" + knot + ", " + knot + ", 0)", 1).due("joined(" + knot + ", " + knot + ", 15)", 1);
        }
        Bounds.says("joined: UNKNOWN: all three.");
        x.each(Bounds.NO_KNOTS, "joined(#, 0, 0)", UNKNOWN).each(Bounds.NO_KNOTS, "joined(0, #, 0)", UNKNOWN);
        x.each(Bounds.NO_KNOTS, "joined(#, #, 0)", UNKNOWN).each(Bounds.NO_TIMES, "joined(0, 1, #)", UNKNOWN);
        x.each(Bounds.NO_TIMES, "joined(0, 0, #)", UNKNOWN);
    }

    private static void side() {
        Bounds.says("one goes from the one to the other in an even (0), or an odd (1) number");
        Bounds x = always("01 12 23 34 45 56 67");
        for (int knot = 0; knot < 8; knot++) {
            x.due("side(0, " + knot + ", 0)", knot % 2).due("side(" + knot + ", 7, 15)", (7 - knot) % 2);
        }
        // hung deep: 7 below 6 below 4 below 0
        Bounds deep = always("01 23 13 45 67 57 37");
        deep.due("side(0, 7, 0)", 1).due("side(2, 6, 0)", 1).due("side(0, 3, 0)", 0).due("side(4, 1, 0)", 0).due("side(4, 0, 0)", 1);
        Bounds.says("if in both, their PART is ODD");
        ring(3, 1);
        ring(4, 0);
        ring(5, 1);
        ring(6, 0);
        ring(7, 1);
        ring(8, 0);
        Bounds.says("(of one with itself 0)");
        Bounds odd = always("01 12 02 23").then("put(5, 6, 0, 0)");
        for (int knot = 0; knot < 8; knot++) {
            odd.due("side(" + knot + ", " + knot + ", 0)", 0).due("side(" + knot + ", " + knot + ", 15)", 0);
        }
        Bounds.says("side: UNKNOWN: all three");
        x.each(Bounds.NO_KNOTS, "side(#, 0, 0)", UNKNOWN).each(Bounds.NO_KNOTS, "side(0, #, 0)", UNKNOWN);
        x.each(Bounds.NO_KNOTS, "side(#, #, 0)", UNKNOWN).each(Bounds.NO_TIMES, "side(0, 1, #)", UNKNOWN);
        x.each(Bounds.NO_TIMES, "side(0, 0, #)", UNKNOWN);
        Bounds.says("STATE: they are not JOINED, or their PART is ODD.");
        new Bounds().due("side(0, 7, 0)", STATE);
        odd.due("side(0, 5, 0)", STATE).due("side(5, 6, 0)", 1).due("side(5, 6, 1)", STATE).due("side(6, 7, 0)", STATE);
        odd.due("side(0, 1, 0)", STATE).due("side(3, 0, 0)", STATE).due("side(2, 3, 15)", STATE);
        Bounds now = Bounds.of("put(0, 1, 0, 15)", "put(1, 2, 3, 9)", "put(0, 2, 5, 7)");
        now.due("side(0, 2, 2)", STATE).due("side(0, 2, 3)", 0).due("side(0, 2, 4)", 0).due("side(0, 2, 5)", STATE);
        now.due("side(0, 1, 7)", STATE).due("side(0, 2, 8)", 0).due("side(0, 2, 10)", STATE).due("side(0, 1, 10)", 1);
    }

    private static void work() {
        Bounds.says("how many SPANS LIE on all NODES, each counted for each");
        new Bounds().due("work(0)", 0).due("work(1)", 0);
        always("01").due("work(0)", 1).due("work(1)", 1);
        String sixteen = "01 02 03 04 05 06 07 12 13 14 15 16 17 23 24 25";
        during(sixteen, "1, 14").due("work(0)", 96).due("work(1)", 42);
        during(sixteen, "15, 15").due("work(0)", 16).due("work(1)", 7);
        Bounds.says("how many of these, in a walk through all NODES (each ahead of both below it), join two ROOTS");
        always(sixteen).due("work(0)", 16).due("work(1)", 7);
        // what is done at NODE 1 stands below it, what is done at NODE 2 does not stand at NODE 3
        Bounds.of("put(0, 1, 0, 7)", "put(1, 2, 0, 15)", "put(0, 2, 0, 15)").due("work(0)", 3).due("work(1)", 2);
        Bounds.of("put(0, 1, 0, 7)", "put(0, 1, 8, 15)").due("work(0)", 2).due("work(1)", 2);
        Bounds.of("put(0, 1, 1, 14)", "put(0, 2, 0, 15)", "put(1, 2, 8, 15)").due("work(0)", 8).due("work(1)", 5);
        Bounds.says("work: OUTSIDE.");
        always("01").each("-1 2 min max", "work(#)", OUTSIDE);
    }

    private static void when() {
        Bounds.says("TIMES at which they are JOINED (bits)");
        Bounds x = Bounds.of("put(0, 1, 0, 0)", "put(6, 7, 15, 15)", "put(2, 3, 0, 15)", "put(3, 4, 1, 14)");
        x.due("when(0, 1)", 1).due("when(7, 6)", 32768).due("when(2, 3)", 65535).due("when(2, 4)", 32766);
        x.due("when(0, 7)", 0).due("when(0, 0)", 65535).due("when(7, 7)", 65535);
        new Bounds().due("when(0, 7)", 0).due("when(5, 5)", 65535);
        Bounds.says("when: UNKNOWN: both.");
        x.each(Bounds.NO_KNOTS, "when(#, 0)", UNKNOWN).each(Bounds.NO_KNOTS, "when(0, #)", UNKNOWN);
        x.each(Bounds.NO_KNOTS, "when(#, #)", UNKNOWN);
    }

    private static void bridges() {
        Bounds.says("SPANS (bits) that live then, without which there were more PARTS");
        new Bounds().due("bridges(0)", 0).due("bridges(15)", 0);
        always("01 12 23 34 45 56 67").due("bridges(0)", 127).due("bridges(15)", 127);
        always("01 12 23 34 45 56 67 07").due("bridges(0)", 0);
        always("01 12 02 23 34 45 35").due("bridges(0)", 8);
        always("56 67 57").due("bridges(0)", 0).then("put(0, 1, 0, 0)").due("bridges(0)", 8).due("bridges(1)", 0);
        Bounds now = Bounds.of("put(0, 1, 0, 15)", "put(1, 2, 3, 9)", "put(0, 2, 5, 7)", "put(6, 7, 7, 7)");
        now.due("bridges(2)", 1).due("bridges(3)", 3).due("bridges(4)", 3).due("bridges(5)", 0).due("bridges(7)", 8);
        now.due("bridges(8)", 3).due("bridges(10)", 1);
        // there is no bound for how many live: of 16 the last one alone is a bridge
        always("01 02 03 04 05 06 12 13 14 15 16 23 24 25 26 67").due("bridges(15)", 32768).due("bridges(0)", 32768);
        Bounds.says("bridges: UNKNOWN.");
        now.each(Bounds.NO_TIMES, "bridges(#)", UNKNOWN);
    }

    private static void least() {
        Bounds.says("the fewest SPANS without which they were not JOINED then: how many (what = 0), which (1)");
        new Bounds().due("least(0, 7, 0, 0)", 0).due("least(0, 7, 15, 1)", 0);
        always("67").due("least(6, 7, 0, 0)", 1).due("least(7, 6, 15, 1)", 1).due("least(0, 7, 0, 0)", 0);
        Bounds now = Bounds.of("put(0, 1, 0, 15)", "put(1, 2, 3, 9)", "put(0, 2, 5, 7)");
        now.due("least(0, 1, 4, 0)", 1).due("least(0, 1, 5, 0)", 2).due("least(0, 1, 7, 0)", 2).due("least(0, 1, 8, 0)", 1);
        Bounds.says("of like ones the least (bits)");
        now.due("least(0, 1, 5, 1)", 3).due("least(0, 2, 5, 1)", 5).due("least(1, 2, 5, 1)", 3).due("least(0, 2, 4, 1)", 1);
        always("01 12 23 34 45 56 67").due("least(0, 7, 0, 1)", 1).due("least(6, 7, 0, 1)", 64).due("least(3, 7, 0, 1)", 8);
        Bounds.says("least: UNKNOWN: a, b, time");
        now.each(Bounds.NO_KNOTS, "least(#, 1, 0, 0)", UNKNOWN).each(Bounds.NO_KNOTS, "least(0, #, 0, 0)", UNKNOWN);
        now.each(Bounds.NO_KNOTS, "least(#, #, 0, 2)", UNKNOWN).each(Bounds.NO_TIMES, "least(0, 1, #, 0)", UNKNOWN);
        now.each(Bounds.NO_TIMES, "least(0, 0, #, 2)", UNKNOWN);
        Bounds.says("least: OUTSIDE: both KNOTS are one, what");
        now.due("least(0, 0, 0, 0)", OUTSIDE).due("least(7, 7, 15, 1)", OUTSIDE);
        now.each("-1 2 min max", "least(0, 1, 0, #)", OUTSIDE).each("-1 2 min max", "least(1, 1, 0, #)", OUTSIDE);
    }

    private static void leastIsFull() {
        Bounds.says("(It is FULL, if more than 10 live then.)");
        // all ten pairs of KNOTS 0 to 4, each from the next TIME on, then an eleventh far from them
        Bounds x = Bounds.living("L+01+02+03+04+12+13+14+23+24+34+56");
        x.due("least(3, 4, 9, 0)", 4).due("least(3, 4, 9, 1)", 4 | 32 | 128 | 512).due("least(0, 7, 9, 0)", 0);
        x.due("least(3, 4, 10, 0)", FULL).due("least(3, 4, 10, 1)", FULL).due("least(3, 4, 15, 0)", FULL);
        x.due("least(0, 7, 10, 0)", FULL).due("least(5, 6, 10, 1)", FULL).due("least(3, 3, 10, 0)", OUTSIDE);
        x.due("least(3, 4, 10, 2)", OUTSIDE).due("least(3, 8, 10, 0)", UNKNOWN).due("least(3, 4, 16, 0)", UNKNOWN);
        x.due("end(10, 14)", 15).due("least(3, 4, 15, 0)", 4).due("least(5, 6, 15, 0)", 0).due("least(5, 6, 14, 0)", FULL);
        // 16 SPANS of which 10 live, the ones of the greatest numbers
        Bounds y = during("01 02 03 04 05 06", "0, 0");
        for (String pair : "01 02 03 04 12 13 14 23 24 34".split(" ")) {
            y.then("put(" + pair.charAt(0) + ", " + pair.charAt(1) + ", 1, 15)");
        }
        y.due("least(3, 4, 1, 0)", 4).due("least(3, 4, 1, 1)", (4 | 32 | 128 | 512) << 6).due("least(0, 6, 0, 1)", 32);
    }

    public static void main(String[] args) {
        walk();
        bySize();
        at();
        knot();
        joined();
        side();
        work();
        when();
        bridges();
        least();
        leastIsFull();
        Bounds.end();
    }
}
