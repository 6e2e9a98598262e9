/** For each promise of the document: ordinary inputs, the edges that it names, and wrong inputs. */
public final class PromiseTest {
    private static final int UNKNOWN = -1, OUTSIDE = -2, STATE = -3, FULL = -4, NONE = -9;
    private static final int[] WRONG_KNOTS = {-1, 8, Integer.MIN_VALUE, Integer.MAX_VALUE};
    private static final int[] WRONG_TIMES = {-1, 16, Integer.MIN_VALUE, Integer.MAX_VALUE};

    private static int wrong = 0;
    private static int promise = 0;

    private static void due(String call, long got, long want) {
        if (got != want) {
            wrong++;
            System.out.println("promise " + promise + ": " + call + " answered " + got + ", due is " + want);
        }
    }

    private static TimeLinks written(String text) {
        TimeLinks x = new TimeLinks();
        rewrite(x, text);
        return x;
    }

    private static void rewrite(TimeLinks x, String text) {
        x.wipe();
        for (int i = 0; i < text.length(); i++) {
            due("write of " + text + " at " + i, x.write(text.charAt(i)), i + 1);
        }
    }

    private static TimeLinks living(String text, int spans) {
        TimeLinks x = written(text);
        due("life of " + text, x.life(), spans);
        return x;
    }

    /** SPANS told as four figures in base 16 each: both KNOTS, the first TIME, the last one. */
    private static TimeLinks with(String... spans) {
        TimeLinks x = new TimeLinks();
        for (int i = 0; i < spans.length; i++) {
            String s = spans[i];
            due("put " + s, x.put(figure(s, 0), figure(s, 1), figure(s, 2), figure(s, 3)), i);
        }
        return x;
    }

    private static int figure(String s, int place) {
        return Character.digit(s.charAt(place), 16);
    }

    private static void isSpan(TimeLinks x, int number, String s) {
        for (int what = 0; what < 4; what++) {
            due("span(" + number + ", " + what + ") of " + s, x.span(number, what), figure(s, what));
        }
    }

    private static void isFault(String text, int want) {
        due("fault of " + text, written(text).fault(), want);
    }

    private static void aNewObject() {
        promise = 1;
        TimeLinks x = new TimeLinks();
        for (int what = 0; what < 6; what++) {
            due("count(" + what + ")", x.count(what), 0);
        }
        for (int time = 0; time < 16; time++) {
            due("at(" + time + ", 0)", x.at(time, 0), 8);
        }
        due("undo", x.undo(), STATE);
        due("again(0)", x.again(0), STATE);
        due("again(1)", x.again(1), STATE);
        due("seed", x.seed(7), 0);
        due("fault", x.fault(), 0);
        due("UNKNOWN", TimeLinks.UNKNOWN, UNKNOWN);
        due("OUTSIDE", TimeLinks.OUTSIDE, OUTSIDE);
        due("STATE", TimeLinks.STATE, STATE);
        due("FULL", TimeLinks.FULL, FULL);
        due("NONE", TimeLinks.NONE, NONE);
    }

    private static void write() {
        promise = 2;
        TimeLinks x = new TimeLinks();
        due("write(-1)", x.write(-1), OUTSIDE);
        due("write(256)", x.write(256), OUTSIDE);
        due("write(least int)", x.write(Integer.MIN_VALUE), OUTSIDE);
        for (int i = 1; i <= 64; i++) {
            due("write " + i, x.write(i % 2 == 0 ? 0 : 255), i);
        }
        due("write of a 65th", x.write(76), FULL);
        due("a wrong letter is told ahead of FULL", x.write(256), OUTSIDE);
        due("count(0)", x.count(0), 64);
    }

    private static void wipe() {
        promise = 3;
        TimeLinks x = written("L+01");
        due("wipe", x.wipe(), 4);
        due("wipe again", x.wipe(), 0);
        due("count(0)", x.count(0), 0);
        TimeLinks y = living("L+01", 1);
        y.wipe();
        due("wipe leaves SPANS", y.count(1), 1);
    }

    private static void fault() {
        promise = 4;
        isFault("", 0);
        isFault("l", 0);
        isFault("XL", 0);
        isFault("L", NONE);
        isFault("LL", 1);
        isFault("L.", NONE);
        isFault("L+", 2);
        isFault("L+0", 3);
        isFault("L+01", NONE);
        isFault("L+70", NONE);
        isFault("L+8", 2);
        isFault("L+/", 2);
        isFault("L+00", 3);
        isFault("L+08", 3);
        isFault("L+0.", 3);
        isFault("L+01+01", 6);
        isFault("L+01+10", 6);
        isFault("L+01 ", 4);
        isFault("L-", 1);
        isFault("L-01", 1);
        isFault("L+01-", 5);
        isFault("L+01-2", 5);
        isFault("L+01-0", 6);
        isFault("L+01-00", 6);
        isFault("L+01-02", 6);
        isFault("L+01-10", NONE);
        isFault("L+01-10-", 7);
        isFault("L+01-10+01", NONE);
        isFault("L+01+02+03+04+05+06+07+0", 23);
        isFault("L+01+02+03+04+05+06+07+1", 24);
        isFault("L+01+02+03+04+05+06+07+10", 24);
        isFault("L+01+02+03+04+05+06+07-01+01", NONE);
        isFault("L................", NONE);
        isFault("L.................", 17);
        isFault("L................X", 17);
        isFault("L...............+01", NONE);
        isFault("L...............+0", 18);
        isFault("L+01+02+03+04+05+06+07+12+13+14+15+16+17+23+24+25", NONE);
        isFault("L+01+02+03+04+05+06+07+12+13+14+15+16+17+23+24+25.", 49);
        TimeLinks old = written("L+01+02");
        due("fault", old.fault(), NONE);
        rewrite(old, "L+0");
        due("letters that were wiped are gone", old.fault(), 3);
        rewrite(old, "L+");
        due("letters that were wiped are gone", old.fault(), 2);
        rewrite(old, "L-01");
        due("LINKS that were wiped are gone", old.fault(), 1);
        rewrite(old, "L+01");
        due("LINKS that were wiped are gone", old.fault(), NONE);
        TimeLinks x = written("L+01");
        x.fault();
        due("fault changes nothing", x.count(1) + x.count(0), 4);
    }

    private static void life() {
        promise = 5;
        TimeLinks x = living("L+10+12-01.+01-21", 3);
        isSpan(x, 0, "0101");
        isSpan(x, 1, "1214");
        isSpan(x, 2, "014f");
        due("life again", x.life(), 3);
        due("THE TEXT stays", x.count(0), 17);
        due("put", x.put(3, 4, 0, 0), 3);
        due("keep", x.keep(0), 4);
        due("keep", x.keep(1), 4);
        due("see", x.see(0, 1, 2, 1), 1);
        x.seed(99);
        rewrite(x, "L+01+");
        due("life of a fault", x.life(), STATE);
        due("what is refused changes nothing", x.count(1), 4);
        due("nor THE ROW", x.count(4), 1);
        due("nor what was kept", x.again(1), 4);
        x.put(3, 5, 0, 0);
        rewrite(x, "L...............+67");
        due("life", x.life(), 1);
        isSpan(x, 0, "67ff");
        due("THE ROW is empty", x.count(4), 0);
        due("undo", x.undo(), STATE);
        due("what was kept is gone", x.again(0), STATE);
        due("what was kept is gone", x.again(1), STATE);
        due("SEEN stays", x.count(5), 1);
        due("THE SEED stays", x.seed(0), 99);
        rewrite(x, "L");
        due("life of none", x.life(), 0);
        TimeLinks y = living("L+01-01+01-01+01-01+01-01+01-01+01-01+01-01+01-10", 8);
        for (int i = 0; i < 8; i++) {
            due("span(" + i + ", 2)", y.span(i, 2), 2 * i);
            due("span(" + i + ", 3)", y.span(i, 3), 2 * i);
        }
    }

    private static void span() {
        promise = 6;
        TimeLinks x = with("531e", "010f", "0200", "0378", "04ff", "128f");
        isSpan(x, 0, "351e");
        int[] nodes = {6, 1, 1, 2, 1, 1};
        for (int i = 0; i < nodes.length; i++) {
            due("span(" + i + ", 4)", x.span(i, 4), nodes[i]);
        }
        due("span(6, 0)", x.span(6, 0), UNKNOWN);
        due("span(-1, 0)", x.span(-1, 0), UNKNOWN);
        due("span(6, 9)", x.span(6, 9), UNKNOWN);
        due("span(0, 5)", x.span(0, 5), OUTSIDE);
        due("span(0, -1)", x.span(0, -1), OUTSIDE);
        due("span(greatest, 0)", x.span(Integer.MAX_VALUE, 0), UNKNOWN);
    }

    private static void node() {
        promise = 7;
        TimeLinks x = with("011e", "020f", "030f", "0478");
        int[] want = new int[32];
        want[1] = 6;
        for (int v : new int[] {17, 9, 5, 6, 14, 30}) {
            want[v] |= 1;
        }
        want[23] |= 8;
        want[24] |= 8;
        for (int v = 1; v < 32; v++) {
            due("node(" + v + ")", x.node(v), want[v]);
        }
        for (int v : new int[] {0, -1, 32, Integer.MIN_VALUE, Integer.MAX_VALUE}) {
            due("node(" + v + ")", x.node(v), UNKNOWN);
        }
    }

    private static void put() {
        promise = 8;
        TimeLinks x = with("7328");
        isSpan(x, 0, "3728");
        for (int k : WRONG_KNOTS) {
            due("put(" + k + ", 0, 0, 0)", x.put(k, 0, 0, 0), UNKNOWN);
            due("put(0, " + k + ", 0, 0)", x.put(0, k, 0, 0), UNKNOWN);
        }
        for (int t : WRONG_TIMES) {
            due("put(0, 0, " + t + ", 0)", x.put(0, 0, t, 0), UNKNOWN);
            due("put(0, 0, 0, " + t + ")", x.put(0, 0, 0, t), UNKNOWN);
        }
        due("put(3, 3, 0, 0)", x.put(3, 3, 0, 0), OUTSIDE);
        due("put(3, 7, 8, 7)", x.put(3, 7, 8, 7), OUTSIDE);
        due("put(3, 7, 8, 15)", x.put(3, 7, 8, 15), STATE);
        due("put(7, 3, 0, 2)", x.put(7, 3, 0, 2), STATE);
        due("put(7, 3, 0, 15)", x.put(7, 3, 0, 15), STATE);
        due("put(3, 7, 4, 4)", x.put(3, 7, 4, 4), STATE);
        due("no ACT was done", x.count(4), 1);
        due("put(3, 7, 9, 15)", x.put(3, 7, 9, 15), 1);
        due("put(3, 7, 0, 1)", x.put(3, 7, 0, 1), 2);
        for (int i = 3; i < 16; i++) {
            due("put " + i, x.put(0, 1, i, i), i);
        }
        due("put of a 17th", x.put(0, 2, 0, 0), FULL);
        due("STATE is told ahead of FULL", x.put(0, 1, 0, 3), STATE);
        due("OUTSIDE is told ahead of FULL", x.put(1, 1, 0, 3), OUTSIDE);
        due("UNKNOWN is told ahead of FULL", x.put(8, 1, 0, 3), UNKNOWN);
        due("count(1)", x.count(1), 16);
    }

    private static void cut() {
        promise = 9;
        TimeLinks x = with("0101", "0223", "0345");
        due("cut(3)", x.cut(3), UNKNOWN);
        due("cut(-1)", x.cut(-1), UNKNOWN);
        due("cut(0)", x.cut(0), 2);
        isSpan(x, 0, "0223");
        isSpan(x, 1, "0345");
        due("cut(1)", x.cut(1), 1);
        isSpan(x, 0, "0223");
        due("cut(0)", x.cut(0), 0);
        due("cut(0)", x.cut(0), UNKNOWN);
        due("three were PUT, three CUT", x.count(4), 6);
        TimeLinks z = with("0101", "6723", "2345");
        due("cut(0)", z.cut(0), 2);
        isSpan(z, 0, "6723");
        isSpan(z, 1, "2345");
        TimeLinks y = living("L+01+02+03+04+05+06+07+12+13+14+15+16+17+23+24+25", 16);
        for (int left = 15; left >= 0; left--) {
            due("cut(0)", y.cut(0), left);
        }
    }

    private static void end() {
        promise = 10;
        TimeLinks x = with("0125", "018a", "0200");
        due("end(3, 0)", x.end(3, 0), UNKNOWN);
        due("end(-1, 0)", x.end(-1, 0), UNKNOWN);
        for (int t : WRONG_TIMES) {
            due("end(0, " + t + ")", x.end(0, t), UNKNOWN);
        }
        due("end(0, 5)", x.end(0, 5), STATE);
        due("end(0, 1)", x.end(0, 1), STATE);
        due("end(0, 8)", x.end(0, 8), STATE);
        due("end(0, 15)", x.end(0, 15), STATE);
        due("no ACT was done", x.count(4), 3);
        due("end(0, 7)", x.end(0, 7), 5);
        due("end(0, 2)", x.end(0, 2), 7);
        due("end(1, 15)", x.end(1, 15), 10);
        due("end(2, 15)", x.end(2, 15), 0);
        isSpan(x, 0, "0122");
        isSpan(x, 1, "018f");
        isSpan(x, 2, "020f");
    }

    private static void undo() {
        promise = 11;
        TimeLinks x = living("L+01+02+03", 3);
        due("undo", x.undo(), STATE);
        x.cut(1);
        x.end(1, 9);
        x.put(0, 2, 4, 5);
        due("undo of PUT", x.undo(), 2);
        due("count(1)", x.count(1), 2);
        isSpan(x, 1, "0329");
        due("undo of ENDED", x.undo(), 1);
        isSpan(x, 1, "032f");
        due("undo of CUT", x.undo(), 0);
        isSpan(x, 0, "010f");
        isSpan(x, 1, "021f");
        isSpan(x, 2, "032f");
        due("undo", x.undo(), STATE);
        for (int i = 0; i < 20; i++) {
            x.end(0, i % 2);
        }
        due("of more than 14 the first are forgotten", x.count(4), 14);
        for (int left = 13; left >= 0; left--) {
            due("undo", x.undo(), left);
            due("span(0, 3)", x.span(0, 3), left % 2 == 0 ? 1 : 0);
        }
        due("undo", x.undo(), STATE);
    }

    private static void at() {
        promise = 12;
        TimeLinks x = with("010f", "120f", "020f", "3448", "5658", "456f");
        due("at(0, 0)", x.at(0, 0), 6);
        due("at(4, 0)", x.at(4, 0), 5);
        due("at(7, 0)", x.at(7, 0), 3);
        due("at(7, 1)", x.at(7, 1), 63);
        due("at(5, 1)", x.at(5, 1), 31);
        due("at(9, 1)", x.at(9, 1), 39);
        due("at(7, 2)", x.at(7, 2), 1);
        due("at(0, 3)", x.at(0, 3), 1);
        due("at(7, 3)", x.at(7, 3), 2);
        due("at(7, 4)", x.at(7, 4), 4);
        due("at(0, 4)", x.at(0, 4), 3);
        TimeLinks two = with("010f", "120f", "020f", "340f", "450f", "350f");
        due("two ODD PARTS", two.at(3, 2), 2);
        two.put(0, 3, 3, 3);
        due("two ODD PARTS joined", two.at(3, 2), 1);
        TimeLinks below = with("010f", "120f", "230f", "560f", "670f", "570f", "050f");
        due("an ODD PART below one that is not", below.at(3, 2) * 10 + below.at(3, 4), 17);
        due("none live", below.at(0, 1) + with("0111").at(0, 1), 127);
        TimeLinks ring = with("010f", "120f", "230f", "030f");
        due("an even ring", ring.at(3, 2), 0);
        TimeLinks deep = with("010f", "230f", "020f", "450f", "670f", "460f", "040f");
        due("the deepest", deep.at(0, 3), 3);
        due("no links", new TimeLinks().at(0, 3) * 10 + new TimeLinks().at(0, 4), 1);
        for (int t : WRONG_TIMES) {
            due("at(" + t + ", 9)", x.at(t, 9), UNKNOWN);
        }
        due("at(0, 5)", x.at(0, 5), OUTSIDE);
        due("at(0, -1)", x.at(0, -1), OUTSIDE);
    }

    private static void knot() {
        promise = 13;
        TimeLinks x = with("128f", "010f", "340f", "1400");
        due("the lesser of like SIZE is the ROOT", x.knot(1, 0, 0), 0);
        due("NODE 1 is ahead of NODE 3, so 2 hangs below 0", x.knot(2, 8, 1), 1);
        due("knot(2, 8, 0)", x.knot(2, 8, 0), 0);
        due("knot(2, 8, 2)", x.knot(2, 8, 2), 3);
        due("knot(2, 7, 2)", x.knot(2, 7, 2), 1);
        due("3 hangs below 0, 4 below 3", x.knot(4, 0, 1), 2);
        due("knot(4, 0, 0)", x.knot(4, 0, 0), 0);
        due("knot(4, 0, 2)", x.knot(4, 0, 2), 4);
        due("knot(4, 1, 0)", x.knot(4, 1, 0), 3);
        TimeLinks y = with("450f", "040f");
        due("less SIZE hangs below, though it is the lesser number", y.knot(0, 5, 0), 4);
        due("knot(0, 5, 1)", y.knot(0, 5, 1), 1);
        for (int k : WRONG_KNOTS) {
            due("knot(" + k + ", 0, 9)", x.knot(k, 0, 9), UNKNOWN);
        }
        for (int t : WRONG_TIMES) {
            due("knot(0, " + t + ", 9)", x.knot(0, t, 9), UNKNOWN);
        }
        due("knot(0, 0, 3)", x.knot(0, 0, 3), OUTSIDE);
        due("knot(0, 0, -1)", x.knot(0, 0, -1), OUTSIDE);
    }

    private static void joined() {
        promise = 14;
        TimeLinks x = with("0127", "125a", "340f");
        due("joined(0, 2, 4)", x.joined(0, 2, 4), 0);
        due("joined(0, 2, 5)", x.joined(0, 2, 5), 1);
        due("joined(2, 0, 7)", x.joined(2, 0, 7), 1);
        due("joined(0, 2, 8)", x.joined(0, 2, 8), 0);
        due("joined(0, 3, 6)", x.joined(0, 3, 6), 0);
        due("joined(6, 6, 6)", x.joined(6, 6, 6), 1);
        for (int k : WRONG_KNOTS) {
            due("joined(" + k + ", 0, 0)", x.joined(k, 0, 0), UNKNOWN);
            due("joined(0, " + k + ", 0)", x.joined(0, k, 0), UNKNOWN);
        }
        for (int t : WRONG_TIMES) {
            due("joined(0, 0, " + t + ")", x.joined(0, 0, t), UNKNOWN);
        }
    }

    private static void side() {
        promise = 15;
        TimeLinks x = with("010f", "120f", "230f", "0344", "0255", "560f");
        due("side(0, 1, 0)", x.side(0, 1, 0), 1);
        due("side(0, 2, 0)", x.side(0, 2, 0), 0);
        due("side(3, 0, 0)", x.side(3, 0, 0), 1);
        due("side(3, 0, 4) in an even ring", x.side(3, 0, 4), 1);
        due("side(3, 1, 4)", x.side(3, 1, 4), 0);
        due("side(0, 3, 5) in an ODD PART", x.side(0, 3, 5), STATE);
        due("side(5, 6, 5) in the other PART", x.side(5, 6, 5), 1);
        due("side(0, 5, 0)", x.side(0, 5, 0), STATE);
        due("side(7, 7, 0)", x.side(7, 7, 0), 0);
        due("side(2, 2, 0)", x.side(2, 2, 0), 0);
        for (int k = 0; k < 8; k++) {
            due("side(" + k + ", " + k + ", 5), in an ODD PART too", x.side(k, k, 5), 0);
        }
        for (int k : WRONG_KNOTS) {
            due("side(" + k + ", 0, 0)", x.side(k, 0, 0), UNKNOWN);
            due("side(0, " + k + ", 0)", x.side(0, k, 0), UNKNOWN);
        }
        for (int t : WRONG_TIMES) {
            due("side(0, 0, " + t + ")", x.side(0, 0, t), UNKNOWN);
        }
    }

    private static void work() {
        promise = 16;
        due("work(0) of none", new TimeLinks().work(0), 0);
        due("work(1) of none", new TimeLinks().work(1), 0);
        TimeLinks x = with("011e", "120f", "028f");
        due("work(0)", x.work(0), 8);
        due("work(1): the first three of 01 below NODE 2, that of 02, none of 01 below NODE 3", x.work(1), 5);
        due("work(0) of NODE 31 alone", with("01ff").work(0), 1);
        due("work(1) of NODE 31 alone", with("01ff").work(1), 1);
        due("work(2)", x.work(2), OUTSIDE);
        due("work(-1)", x.work(-1), OUTSIDE);
    }

    private static void when() {
        promise = 17;
        TimeLinks x = with("0127", "125a");
        due("when(0, 1)", x.when(0, 1), 0xfc);
        due("when(2, 0)", x.when(2, 0), 0xe0);
        due("when(0, 3)", x.when(0, 3), 0);
        due("when(3, 3)", x.when(3, 3), 65535);
        for (int k : WRONG_KNOTS) {
            due("when(" + k + ", 0)", x.when(k, 0), UNKNOWN);
            due("when(0, " + k + ")", x.when(0, k), UNKNOWN);
        }
    }

    private static void bridges() {
        promise = 18;
        TimeLinks x = with("0127", "0100", "120f", "0247", "340f");
        due("bridges(2)", x.bridges(2), 1 | 4 | 16);
        due("bridges(5) with a ring", x.bridges(5), 16);
        due("bridges(0)", x.bridges(0), 2 | 4 | 16);
        due("bridges(15)", x.bridges(15), 4 | 16);
        for (int t : WRONG_TIMES) {
            due("bridges(" + t + ")", x.bridges(t), UNKNOWN);
        }
        TimeLinks y = living("L+01+02+03+04+05+06+07+12+13+14+15+16+17+23+24+25", 16);
        due("bridges(15) of 16", y.bridges(15), 0);
        due("bridges(0)", y.bridges(0), 1);
    }

    private static void least() {
        promise = 19;
        TimeLinks x = with("560f", "010f", "120f", "230f", "030f");
        due("least(0, 2, 0, 0)", x.least(0, 2, 0, 0), 2);
        due("of like ones the least, one of each way", x.least(0, 2, 0, 1), 2 | 8);
        due("least(2, 3, 0, 1)", x.least(2, 3, 0, 1), 2 | 8);
        due("least(5, 6, 0, 0)", x.least(5, 6, 0, 0), 1);
        due("least(6, 5, 0, 1)", x.least(6, 5, 0, 1), 1);
        due("not JOINED: none", x.least(0, 5, 0, 0), 0);
        due("not JOINED: none", x.least(0, 5, 0, 1), 0);
        for (int k : WRONG_KNOTS) {
            due("least(" + k + ", 0, 0, 0)", x.least(k, 0, 0, 0), UNKNOWN);
            due("least(0, " + k + ", 0, 5)", x.least(0, k, 0, 5), UNKNOWN);
        }
        for (int t : WRONG_TIMES) {
            due("least(0, 0, " + t + ", 0)", x.least(0, 0, t, 0), UNKNOWN);
        }
        due("least(1, 1, 0, 0)", x.least(1, 1, 0, 0), OUTSIDE);
        due("least(0, 1, 0, 2)", x.least(0, 1, 0, 2), OUTSIDE);
        due("least(0, 1, 0, -1)", x.least(0, 1, 0, -1), OUTSIDE);
        TimeLinks y = living("L+01+02+03+04+12+13+14+23+24+34+56", 11);
        due("10 live", y.least(3, 4, 9, 0), 4);
        due("10 live", y.least(3, 4, 9, 1), 4 | 32 | 128 | 512);
        due("11 live", y.least(3, 4, 10, 0), FULL);
        due("11 live, not JOINED", y.least(3, 7, 10, 1), FULL);
        due("OUTSIDE is told ahead of FULL", y.least(3, 3, 10, 0), OUTSIDE);
    }

    private static void judge() {
        promise = 20;
        TimeLinks x = with("0105", "230f");
        due("PUT", x.judge(1, 10168), NONE);
        due("PUT with a TIME in common", x.judge(1, 10158), 0);
        due("PUT backwards", x.judge(1, 10187), 0);
        due("PUT of no KNOT", x.judge(1, 18101), 0);
        due("PUT of one KNOT", x.judge(1, 11101), 0);
        due("CUT", x.judge(1, 20001), NONE);
        due("CUT of none", x.judge(1, 20002), 0);
        due("CUT with a figure that is not 0", x.judge(1, 21001), 0);
        due("CUT with a figure that is not 0", x.judge(1, 20101), 0);
        due("ENDED", x.judge(1, 30015), NONE);
        due("ENDED at no TIME", x.judge(1, 30016), 0);
        due("ENDED as it is", x.judge(1, 30005), 0);
        due("ENDED ahead of its first TIME", with("0127").judge(1, 30001), 0);
        due("ENDED of none", x.judge(1, 30201), 0);
        due("JOINED", x.judge(1, 40105), NONE);
        due("not JOINED", x.judge(1, 40106), 0);
        due("JOINED with itself", x.judge(1, 44406), NONE);
        due("JOINED at no TIME", x.judge(1, 42316), 0);
        due("JOINED of no KNOT", x.judge(1, 48800), 0);
        due("PARTS", x.judge(1, 50605), NONE);
        due("fewer PARTS", x.judge(1, 50705), 0);
        due("no PARTS", x.judge(1, 50005), NONE);
        due("PARTS at no TIME", x.judge(1, 50016), 0);
        due("PARTS with a figure that is not 0", x.judge(1, 51005), 0);
        due("PUT of the first", new TimeLinks().judge(2, 1230042304), 1);
        due("PUT of the first", new TimeLinks().judge(2, 1230042300), NONE);
        due("CUT of the last", with("0101").judge(2, 2000050801), NONE);
        due("ENDED behind TIME 0", with("0100").judge(1, 30009), NONE);
        due("a row of 0", x.judge(1, 0), 0);
        due("no such doing", x.judge(1, 60000), 0);
        due("no such doing", x.judge(1, 101), 0);
        due("CUT, then the other one has its number", x.judge(2, 2000020001L), 1);
        due("CUT, then PUT where it was, then JOINED", x.judge(3, 200001014540105L), NONE);
        due("CUT, then PUT, then no longer JOINED", x.judge(3, 200001014540103L), 2);
        due("the first that can not be", x.judge(3, 999999999999999L), 0);
        due("PUT and then as many PARTS", x.judge(2, 1120950606L), NONE);
        due("PUT and then fewer PARTS", x.judge(2, 1120950605L), 1);
        due("no first doing", x.judge(2, 40105), 0);
        due("nothing is changed", x.count(1) * 10 + x.count(4), 22);
        isSpan(x, 0, "0105");
        isSpan(x, 1, "230f");
        due("judge(0, 0)", x.judge(0, 0), OUTSIDE);
        due("judge(4, 0)", x.judge(4, 0), OUTSIDE);
        due("judge(-1, 0)", x.judge(-1, 0), OUTSIDE);
        due("judge(greatest, 0)", x.judge(Integer.MAX_VALUE, 0), OUTSIDE);
        due("a row below 0", x.judge(1, -1), OUTSIDE);
        due("a row of six figures", x.judge(1, 100000), OUTSIDE);
        due("a row of eleven figures", x.judge(2, 10000000000L), OUTSIDE);
        due("a row of sixteen figures", x.judge(3, 1000000000000000L), OUTSIDE);
        due("the greatest row", x.judge(3, Long.MAX_VALUE), OUTSIDE);
        TimeLinks y = living("L+01+02+03+04+05+06+07+12+13+14+15+16+17+23+24+25", 16);
        due("PUT of a 17th", y.judge(1, 16701), 0);
        due("CUT, then PUT of a 16th", y.judge(2, 2001516701L), NONE);
    }

    private static void see() {
        promise = 21;
        TimeLinks x = new TimeLinks();
        for (int k : WRONG_KNOTS) {
            due("see(0, " + k + ", 0, 0)", x.see(0, k, 0, 0), UNKNOWN);
            due("see(0, 0, " + k + ", 0)", x.see(0, 0, k, 0), UNKNOWN);
        }
        for (int t : WRONG_TIMES) {
            due("see(" + t + ", 0, 0, 0)", x.see(t, 0, 0, 0), UNKNOWN);
        }
        due("see(0, 1, 1, 0)", x.see(0, 1, 1, 0), OUTSIDE);
        due("see(0, 1, 2, 2)", x.see(0, 1, 2, 2), OUTSIDE);
        due("see(0, 1, 2, -1)", x.see(0, 1, 2, -1), OUTSIDE);
        for (int i = 1; i <= 6; i++) {
            due("see " + i, x.see(15, 7, 0, i % 2), i);
        }
        due("see of a 7th", x.see(0, 1, 2, 0), FULL);
        due("OUTSIDE is told ahead of FULL", x.see(0, 1, 2, 2), OUTSIDE);
        due("count(5)", x.count(5), 6);
    }

    private static void unsee() {
        promise = 22;
        TimeLinks x = new TimeLinks();
        due("unsee", x.unsee(), 0);
        x.see(0, 1, 2, 0);
        x.see(0, 1, 2, 0);
        due("unsee", x.unsee(), 2);
        due("count(5)", x.count(5), 0);
        due("see", x.see(0, 1, 2, 1), 1);
    }

    private static void missing() {
        promise = 23;
        TimeLinks x = new TimeLinks();
        due("all that can be PUT", x.missing(0), 28 * 136);
        due("the first of all", x.missing(1), 10000);
        x.see(4, 6, 7, 1);
        due("one PART", x.missing(0), 5 * 12);
        due("the first", x.missing(1), 670004);
        x.see(3, 7, 6, 0);
        due("not at TIME 3", x.missing(0), 12);
        due("the first", x.missing(1), 670404);
        x.see(15, 7, 6, 1);
        due("until 15", x.missing(0), 1);
        due("the first", x.missing(1), 670415);
        x.see(15, 7, 6, 0);
        due("what can not be", x.missing(0), 0);
        due("what can not be", x.missing(1), NONE);
        due("nothing is changed", x.count(1), 0);
        TimeLinks y = with("010f", "230f");
        y.see(5, 0, 3, 1);
        due("four pairs join these PARTS", y.missing(0), 4 * 6 * 11);
        due("the first", y.missing(1), 20005);
        y.see(5, 1, 0, 0);
        due("what is JOINED stays so", y.missing(0), 0);
        TimeLinks z = with("6744", "67cc");
        z.see(5, 6, 7, 1);
        due("between SPANS that are there", z.missing(0), 7);
        due("the first", z.missing(1), 670505);
        due("missing(2)", z.missing(2), OUTSIDE);
        due("missing(-1)", z.missing(-1), OUTSIDE);
        TimeLinks full = living("L+01+02+03+04+05+06+07+12+13+14+15+16+17+23+24+25", 16);
        due("there are 16", full.missing(0), FULL);
        due("there are 16", full.missing(1), FULL);
        due("OUTSIDE is told ahead of FULL", full.missing(2), OUTSIDE);
    }

    private static void isShare(TimeLinks x, int span, int time, int above, int below) {
        due("share(" + span + ", " + time + ", true)", x.share(span, time, true), above);
        due("share(" + span + ", " + time + ", false)", x.share(span, time, false), below);
    }

    private static void share() {
        promise = 24;
        TimeLinks x = with("010f", "120f", "020f", "340f", "2366", "0466");
        isShare(x, 0, 0, 2, 3);
        isShare(x, 3, 0, 1, 1);
        isShare(x, 4, 0, 0, 1);
        // 2 and 3 are joined ahead of it by 34, 04 and one way of the ring: 1/4 + 1/5 - 1/6 of all orders
        isShare(x, 4, 6, 43, 60);
        for (int t : WRONG_TIMES) {
            isShare(x, 0, t, UNKNOWN, UNKNOWN);
        }
        isShare(x, 6, 0, UNKNOWN, UNKNOWN);
        isShare(x, -1, 0, UNKNOWN, UNKNOWN);
        TimeLinks y = living("L+01+02+03+04+05+06+07+12+13", 9);
        isShare(y, 1, 7, 2, 3);
        isShare(y, 8, 7, 0, 1);
        isShare(y, 1, 8, FULL, FULL);
        isShare(y, 9, 8, UNKNOWN, UNKNOWN);
        y.put(6, 7, 0, 0);
        isShare(y, 9, 8, FULL, FULL);
    }

    private static void isFails(TimeLinks x, String told, int above, int below) {
        int a = figure(told, 0), b = figure(told, 1), time = figure(told, 2), tenths = figure(told, 3);
        due("fails of " + told + ", true", x.fails(a, b, time, tenths, true), above);
        due("fails of " + told + ", false", x.fails(a, b, time, tenths, false), below);
    }

    private static void fails() {
        promise = 25;
        TimeLinks x = with("010f", "120f", "0211");
        isFails(x, "0103", 7, 10);
        isFails(x, "0203", 49, 100);
        isFails(x, "0200", 1, 1);
        isFails(x, "020a", 0, 1);
        isFails(x, "0305", 0, 1);
        isFails(x, "3305", 1, 1);
        isFails(x, "330a", 1, 1);
        isFails(x, "1215", 5, 8);
        for (int upper = 0; upper < 2; upper++) {
            for (int k : WRONG_KNOTS) {
                due("fails(" + k + ", 0, 0, 11)", x.fails(k, 0, 0, 11, upper == 1), UNKNOWN);
                due("fails(0, " + k + ", 0, 11)", x.fails(0, k, 0, 11, upper == 1), UNKNOWN);
            }
            for (int t : WRONG_TIMES) {
                due("fails(0, 0, " + t + ", 11)", x.fails(0, 0, t, 11, upper == 1), UNKNOWN);
            }
            due("fails(0, 1, 0, 11)", x.fails(0, 1, 0, 11, upper == 1), OUTSIDE);
            due("fails(0, 1, 0, -1)", x.fails(0, 1, 0, -1, upper == 1), OUTSIDE);
        }
        TimeLinks y = living("L+01+12+23+34+45+56+67+07+13", 9);
        isFails(y, "0761", 4782969, 10000000);
        // 1 - (1 - 0.9^2) (1 - 0.9^6), by both ways of the ring
        isFails(y, "0671", 91097379, 100000000);
        isFails(y, "0781", FULL, FULL);
        isFails(y, "0081", FULL, FULL);
        due("OUTSIDE is told ahead of FULL", y.fails(0, 7, 8, 11, true), OUTSIDE);
    }

    private static void seed() {
        promise = 26;
        TimeLinks x = new TimeLinks();
        due("seed", x.seed(Long.MIN_VALUE), 0);
        due("seed", x.seed(Long.MAX_VALUE), Long.MIN_VALUE);
        due("seed", x.seed(-1), Long.MAX_VALUE);
        due("seed", x.seed(0), -1);
    }

    private static void drawn() {
        promise = 27;
        TimeLinks x = with("010f");
        x.seed(5);
        due("drawn(0)", x.drawn(0), OUTSIDE);
        due("drawn(17)", x.drawn(17), OUTSIDE);
        due("drawn(-1)", x.drawn(-1), OUTSIDE);
        due("what is refused changes nothing", x.seed(5), 5);
        long next = 5L * 6364136223846793005L + 1442695040888963407L;
        long figure = next >>> 33;
        boolean joins = joinsAtEight(figure);
        due("drawn(1)", x.drawn(1), joins ? 6 : 7);
        due("THE SEED", x.seed(5), next);
        due("nothing else is changed", x.count(1) * 10 + x.count(4), 11);
        due("drawn(16) ahead", x.drawn(16) > 16 ? 1 : 0, 1);
        x.seed(5);
        int together = x.drawn(16);
        x.seed(5);
        due("drawn again", x.drawn(16), together);
        TimeLinks full = living("L+01+02+03+04+05+06+12+13+14+15+16+23+24+25+26+34", 16);
        for (int m = 1; m <= 16; m++) {
            due("none can be PUT", full.drawn(m), 2 * m);
        }
        isDrawnLateEnough();
    }

    private static boolean joinsAtEight(long figure) {
        long a = figure % 8, b = figure / 8 % 8, from = figure / 64 % 16, more = figure / 1024 % 16;
        boolean isNew = a != b && !(Math.min(a, b) == 0 && Math.max(a, b) == 1);
        return isNew && from <= 8 && from + more >= 8;
    }

    /** Each first draw of many seeds on no SPANS: a SPAN that would go beyond TIME 15 is PUT until 15. */
    private static void isDrawnLateEnough() {
        TimeLinks x = new TimeLinks();
        for (long s = 0; s < 200; s++) {
            long figure = (s * 6364136223846793005L + 1442695040888963407L) >>> 33;
            boolean apart = figure % 8 != figure / 8 % 8;
            boolean early = figure / 64 % 16 <= 8 && figure / 64 % 16 + figure / 1024 % 16 >= 8;
            x.seed(s);
            due("drawn(1) by " + s, x.drawn(1), apart && early ? 7 : 8);
        }
    }

    private static void keep() {
        promise = 28;
        TimeLinks x = with("0105", "230f");
        due("keep(2)", x.keep(2), UNKNOWN);
        due("keep(-1)", x.keep(-1), UNKNOWN);
        due("keep(0)", x.keep(0), 2);
        due("THE ROW stays", x.count(4), 2);
        x.cut(0);
        due("keep(1)", x.keep(1), 1);
        x.cut(0);
        due("keep of none", x.keep(1), 0);
        due("again(0)", x.again(0), 2);
        due("again(1)", x.again(1), 0);
    }

    private static void again() {
        promise = 29;
        TimeLinks x = with("0105", "230f");
        due("again(2)", x.again(2), UNKNOWN);
        due("again(-1)", x.again(-1), UNKNOWN);
        due("again(0)", x.again(0), STATE);
        x.keep(0);
        due("the other SLOT", x.again(1), STATE);
        due("what is refused changes nothing", x.count(4), 2);
        x.end(0, 9);
        x.cut(1);
        x.seed(3);
        x.see(0, 1, 2, 0);
        due("again(0)", x.again(0), 2);
        isSpan(x, 0, "0105");
        isSpan(x, 1, "230f");
        due("THE ROW is empty", x.undo(), STATE);
        due("SEEN stays", x.count(5), 1);
        due("THE SEED stays", x.seed(0), 3);
        x.cut(0);
        due("what is kept stays", x.again(0), 2);
    }

    private static void count() {
        promise = 30;
        TimeLinks x = living("L+01.-01+23", 2);
        due("count(0)", x.count(0), 11);
        due("count(1)", x.count(1), 2);
        due("count(2)", x.count(2), 0xfffb);
        due("count(3)", x.count(3), 2 + 13);
        due("count(4)", x.count(4), 0);
        x.put(4, 5, 2, 3);
        x.end(1, 4);
        x.see(0, 1, 2, 1);
        due("count(1)", x.count(1), 3);
        due("count(2)", x.count(2), 0x1f);
        due("count(3)", x.count(3), 2 + 2 + 2);
        due("count(4)", x.count(4), 2);
        due("count(5)", x.count(5), 1);
        due("count(6)", x.count(6), OUTSIDE);
        due("count(-1)", x.count(-1), OUTSIDE);
        due("count(least)", x.count(Integer.MIN_VALUE), OUTSIDE);
    }

    public static void main(String[] args) {
        aNewObject();
        write();
        wipe();
        fault();
        life();
        span();
        node();
        put();
        cut();
        end();
        undo();
        at();
        knot();
        joined();
        side();
        work();
        when();
        bridges();
        least();
        judge();
        see();
        unsee();
        missing();
        share();
        fails();
        seed();
        drawn();
        keep();
        again();
        count();
        System.out.println(wrong == 0 ? "all promises hold" : wrong + " answers are not as due");
        if (wrong != 0) {
            System.exit(1);
        }
    }
}
