import java.math.BigInteger;

/** The bounds of SHARES, of SPANS that fail, of THE SEED and of what is DRAWN by it: promises 24 to 27. */
public final class BoundsOfChancesTest {
    private static final int UNKNOWN = Bounds.UNKNOWN, OUTSIDE = Bounds.OUTSIDE, FULL = Bounds.FULL;
    private static final BigInteger FACTOR = new BigInteger("6364136223846793005");
    private static final BigInteger STEP = new BigInteger("1442695040888963407");
    private static final BigInteger ALL = BigInteger.ONE.shiftLeft(64);
    private static final long LOW_BITS = (1L << 33) - 1;
    private static final int HIGHEST = (1 << 17) - 1;

    private static Bounds always(String pairs) {
        Bounds x = new Bounds();
        for (String pair : pairs.split(" ")) {
            x.then("put(" + pair.charAt(0) + ", " + pair.charAt(1) + ", 0, 15)");
        }
        return x;
    }

    /** A ring of all KNOTS, so that 8 live; at TIME 15 there is a ninth, and number 9 lives at TIME 0 alone. */
    private static Bounds ring() {
        return always("01 12 23 34 45 56 67 07").then("put(0, 2, 15, 15)", "put(1, 3, 0, 0)");
    }

    private static void share() {
        Bounds.says("by how many in the mean PARTS are fewer when it has come than they were");
        always("01").fraction("share(0, 0, #)", 1, 1).fraction("share(0, 15, #)", 1, 1);
        always("01 12 02").fraction("share(2, 0, #)", 2, 3);
        always("56 67 57").fraction("share(0, 0, #)", 2, 3).fraction("share(2, 0, #)", 2, 3);
        // in each order seven of the eight join two PARTS, and all of the ring are alike
        ring().fraction("share(0, 14, #)", 7, 8).fraction("share(7, 1, #)", 7, 8);
        Bounds.says("(0, if it does not live then)");
        Bounds now = Bounds.of("put(0, 1, 4, 6)");
        now.fraction("share(0, 3, #)", 0, 1).fraction("share(0, 4, #)", 1, 1).fraction("share(0, 6, #)", 1, 1);
        now.fraction("share(0, 7, #)", 0, 1);
        ring().fraction("share(8, 14, #)", 0, 1).fraction("share(9, 14, #)", 0, 1);
        Bounds.says("SHARE (It is FULL, if more than 8 live then.)");
        ring().fraction("share(0, 15, #)", FULL, FULL).fraction("share(8, 15, #)", FULL, FULL);
        ring().fraction("share(9, 15, #)", FULL, FULL).fraction("share(0, 0, #)", FULL, FULL);
        // without one of the ring the other seven and 02 are eight
        ring().then("cut(7)").fraction("share(3, 15, #)", 1, 1).fraction("share(0, 15, #)", 2, 3);
        Bounds.says("share: UNKNOWN: span, time");
        ring().each("-1 10 16 min max", "share(#, 0, true)", UNKNOWN).each("-1 10 16 min max", "share(#, 15, false)", UNKNOWN)
            .each(Bounds.NO_TIMES, "share(0, #, true)", UNKNOWN).each(Bounds.NO_TIMES, "share(10, #, false)", UNKNOWN);
        new Bounds().fraction("share(0, 0, #)", UNKNOWN, UNKNOWN);
    }

    private static void fails() {
        Bounds.says("each SPAN that lives then fails by x tenths (0 to 10), by itself");
        Bounds one = Bounds.of("put(0, 1, 4, 6)");
        one.fraction("fails(0, 1, 4, 0, #)", 1, 1).fraction("fails(0, 1, 6, 1, #)", 9, 10);
        one.fraction("fails(0, 1, 4, 9, #)", 1, 10).fraction("fails(0, 1, 6, 10, #)", 0, 1);
        one.fraction("fails(0, 1, 3, 0, #)", 0, 1).fraction("fails(0, 1, 7, 0, #)", 0, 1);
        one.fraction("fails(0, 2, 4, 0, #)", 0, 1).fraction("fails(0, 2, 4, 10, #)", 0, 1);
        new Bounds().fraction("fails(0, 7, 0, 0, #)", 0, 1).fraction("fails(0, 7, 0, 10, #)", 0, 1);
        // two ways of 4, of 1 and of 7 SPANS
        ring().fraction("fails(0, 4, 14, 1, #)", 88173279, 100000000).fraction("fails(4, 0, 14, 9, #)", 19999, 100000000);
        ring().fraction("fails(0, 1, 14, 1, #)", 94782969, 100000000).fraction("fails(0, 1, 14, 5, #)", 129, 256);
        ring().fraction("fails(0, 4, 14, 0, #)", 1, 1).fraction("fails(0, 4, 14, 10, #)", 0, 1);
        Bounds.says("(a KNOT is JOINED with itself, whatever fails)");
        ring().fraction("fails(3, 3, 14, 10, #)", 1, 1).fraction("fails(3, 3, 14, 0, #)", 1, 1);
        new Bounds().fraction("fails(7, 7, 15, 5, #)", 1, 1);
        Bounds.says("fails: UNKNOWN: a, b, time");
        one.each(Bounds.NO_KNOTS, "fails(#, 1, 0, 0, true)", UNKNOWN).each(Bounds.NO_KNOTS, "fails(0, #, 0, 0, false)", UNKNOWN);
        one.each(Bounds.NO_TIMES, "fails(0, 1, #, 0, true)", UNKNOWN).each(Bounds.NO_TIMES, "fails(0, 1, #, 11, false)", UNKNOWN);
        one.each(Bounds.NO_KNOTS, "fails(#, #, 0, 11, true)", UNKNOWN);
        Bounds.says("fails: OUTSIDE: x");
        one.each("-1 11 min max", "fails(0, 1, 4, #, true)", OUTSIDE).each("-1 11 min max", "fails(0, 1, 4, #, false)", OUTSIDE);
        one.each("-1 11", "fails(0, 0, 4, #, true)", OUTSIDE);
        Bounds.says("FAILS (It is FULL, if more than 8 live then.)");
        Bounds nine = ring().fraction("fails(0, 4, 15, 1, #)", FULL, FULL).fraction("fails(0, 4, 15, 0, #)", FULL, FULL);
        nine.fraction("fails(0, 4, 15, 10, #)", FULL, FULL).fraction("fails(3, 3, 15, 5, #)", FULL, FULL);
        nine.fraction("fails(0, 4, 15, 11, #)", OUTSIDE, OUTSIDE).fraction("fails(0, 8, 15, 11, #)", UNKNOWN, UNKNOWN);
        nine.then("cut(8)").fraction("fails(0, 4, 15, 1, #)", 88173279, 100000000);
    }

    private static void seed() {
        Bounds.says("THE SEED is v: what it was. (THE SEED, a long; 0 at first)");
        Bounds x = new Bounds();
        x.due("seed(min)", 0).due("seed(max)", Long.MIN_VALUE).due("seed(-1)", Long.MAX_VALUE).due("seed(1)", -1);
        x.due("seed(4294967296)", 1).due("seed(-4)", 4294967296L).due("seed(0)", -4).due("seed(0)", 0);
    }

    private static long next(long seed) {
        return BigInteger.valueOf(seed).multiply(FACTOR).add(STEP).mod(ALL).longValue();
    }

    private static void wrapAround() {
        Bounds.says("x becomes x times 6364136223846793005 and 1442695040888963407 (64 bits, wrapping)");
        isNext("0", 1442695040888963407L);
        isNext("1", 7806831264735756412L);
        isNext("2", -4275776585127002199L);
        isNext("-1", -4921441182957829598L);
        isNext("min", -7780676995965812401L);
        isNext("max", next(Long.MAX_VALUE));
        long x = 5;
        for (int m = 1; m <= 16; m++) {
            x = next(x);
            Bounds many = Bounds.of("seed(5)");
            Bounds.same("drawn(" + m + ") is no refusal", many.ask("drawn(" + m + ")") > 0 ? 1 : 0, 1);
            Bounds.same("THE SEED behind drawn(" + m + ")", many.ask("seed(0)"), x);
        }
        Bounds.same("THE SEED behind drawn(16), told", x, -760097286427680363L);
    }

    private static void isNext(String seed, long want) {
        Bounds x = Bounds.of("seed(" + seed + ")");
        x.ask("drawn(1)");
        Bounds.same("THE SEED behind " + seed, x.ask("seed(0)"), want);
    }

    /** The seed by which x becomes these bits at once. */
    private static long seedOf(int a, int b, int from, int more, int high, long low) {
        long upper = a + 8L * b + 64L * from + 1024L * more + 16384L * high;
        BigInteger x = BigInteger.valueOf(upper).shiftLeft(33).add(BigInteger.valueOf(low));
        return x.subtract(STEP).multiply(FACTOR.modInverse(ALL)).mod(ALL).longValue();
    }

    private static void isDrawn(Bounds x, String figures, int want) {
        String[] f = figures.split(" ");
        int a = Integer.parseInt(f[0]), b = Integer.parseInt(f[1]);
        int from = Integer.parseInt(f[2]), more = Integer.parseInt(f[3]);
        for (int high : new int[] {0, 1, HIGHEST}) {
            for (long low : new long[] {0, LOW_BITS}) {
                x.then("seed(" + seedOf(a, b, from, more, high, low) + ")");
                Bounds.same("drawn(1) of " + figures + " and " + high + ", " + low, x.ask("drawn(1)"), want);
            }
        }
    }

    private static void figures() {
        Bounds.says("of its upper 31 bits what is left by 8 is the one KNOT, that by 8 (cut), left by 8, the other one");
        isDrawn(new Bounds(), "0 7 8 0", 7);
        isDrawn(new Bounds(), "7 0 8 0", 7);
        isDrawn(new Bounds(), "6 7 8 0", 7);
        isDrawn(always("01"), "1 2 8 0", 6);
        isDrawn(always("12 23"), "1 3 8 0", 6);
        isDrawn(always("12 23"), "3 4 8 0", 5);
        Bounds.says("that by 64 (cut), left by 16, the first TIME, that by 1024 (cut), left by 16, how many TIMES more");
        isDrawn(new Bounds(), "0 1 0 7", 8);
        isDrawn(new Bounds(), "0 1 0 8", 7);
        isDrawn(new Bounds(), "0 1 0 15", 7);
        isDrawn(new Bounds(), "0 1 7 0", 8);
        isDrawn(new Bounds(), "0 1 7 1", 7);
        isDrawn(new Bounds(), "0 1 9 0", 8);
        isDrawn(new Bounds(), "0 1 9 15", 8);
        isDrawn(new Bounds(), "0 1 15 15", 8);
        Bounds.says("(15 at most)");
        isDrawn(new Bounds(), "0 1 8 7", 7);
        isDrawn(new Bounds(), "0 1 8 8", 7);
        isDrawn(new Bounds(), "0 1 8 15", 7);
        isDrawn(new Bounds(), "0 1 1 15", 7);
        isDrawn(Bounds.of("put(0, 1, 15, 15)"), "0 1 8 6", 7);
        isDrawn(Bounds.of("put(0, 1, 15, 15)"), "0 1 8 7", 8);
        isDrawn(Bounds.of("put(0, 1, 15, 15)"), "0 1 8 8", 8);
        isDrawn(Bounds.of("put(0, 1, 15, 15)"), "0 1 8 15", 8);
        Bounds.says("such a SPAN is PUT, if it can be");
        isDrawn(new Bounds(), "0 0 8 0", 8);
        isDrawn(new Bounds(), "7 7 0 15", 8);
        isDrawn(Bounds.of("put(0, 1, 0, 5)"), "0 1 5 5", 8);
        isDrawn(Bounds.of("put(0, 1, 0, 5)"), "1 0 6 5", 7);
        isDrawn(Bounds.of("put(0, 1, 0, 5)"), "0 2 5 5", 7);
    }

    /** All pairs of KNOTS 0 to 5: a 16th joins 6 and 7, and a 17th would join them with the others. */
    private static void drawnWhenFull() {
        Bounds.says("such a SPAN is PUT, if it can be (there may be 16)");
        long low = 0;
        while (low < 100000 && !joinsSixOrSeven(next(next(seedOf(6, 7, 8, 0, 0, low))))) {
            low++;
        }
        long seed = seedOf(6, 7, 8, 0, 0, low);
        String fifteen = "01 02 03 04 05 12 13 14 15 23 24 25 34 35 45";
        Bounds.same("drawn(2) from 15 on", always(fifteen).then("seed(" + seed + ")").ask("drawn(2)"), 2 + 2);
        Bounds.same("drawn(2) from 14 on", always(fifteen.substring(3)).then("seed(" + seed + ")").ask("drawn(2)"), 2 + 1);
        Bounds sixteen = always(fifteen).then("put(0, 6, 0, 7)", "seed(" + seed + ")");
        Bounds.same("drawn(2) from 16 on", sixteen.ask("drawn(2)"), 3 + 3);
        Bounds.says("PARTS at TIME 8, each time, together");
        for (int m = 1; m <= 16; m++) {
            Bounds.same("drawn(" + m + ") of 16", Bounds.living(Bounds.SIXTEEN).ask("drawn(" + m + ")"), m);
            Bounds late = always(fifteen).then("put(0, 6, 9, 15)");
            Bounds.same("drawn(" + m + ") of 16", late.ask("drawn(" + m + ")"), 3 * m);
        }
    }

    private static boolean joinsSixOrSeven(long x) {
        long upper = x >>> 33;
        long a = upper % 8, b = upper / 8 % 8, from = upper / 64 % 16, more = upper / 1024 % 16;
        return Math.min(a, b) < 6 && Math.max(a, b) > 5 && from <= 8 && from + more >= 8;
    }

    private static void drawn() {
        Bounds.says("m times (1 to 16). OUTSIDE: m.");
        Bounds x = Bounds.of("put(0, 1, 0, 15)", "seed(5)");
        x.each("0 -1 17 min max", "drawn(#)", OUTSIDE).due("seed(5)", 5);
        Bounds.says("(Nothing changes but THE SEED.)");
        Bounds all = Bounds.living("L+01+12").then("put(3, 4, 0, 9)", "keep(0)", "end(2, 5)", "keep(1)", "see(3, 0, 4, 1)");
        all.then("seed(5)").leaves("drawn(16)", "seed(5)").leaves("drawn(1)", "seed(5)");
        Bounds.living(Bounds.SIXTEEN).then("cut(0)", "seed(-9)").leaves("drawn(16)", "drawn(16)", "seed(-9)");
        // each call begins with the SPANS that there are: what was DRAWN earlier is gone
        Bounds again = Bounds.of("seed(5)");
        long first = again.ask("drawn(16)");
        Bounds.same("count(1) behind drawn(16)", again.ask("count(1)"), 0);
        again.ask("seed(5)");
        Bounds.same("drawn(16) by the same seed", again.ask("drawn(16)"), first);
    }

    public static void main(String[] args) {
        share();
        fails();
        seed();
        wrapAround();
        figures();
        drawnWhenFull();
        drawn();
        Bounds.end();
    }
}
