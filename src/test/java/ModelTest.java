import java.math.BigInteger;
import java.util.ArrayDeque;
import java.util.ArrayList;
import java.util.Deque;
import java.util.List;
import java.util.Random;
import java.util.TreeSet;

/** Long runs of calls, drawn by fixed seeds, against a slow model that follows the document word by word. */
public final class ModelTest {
    private static final int UNKNOWN = -1, OUTSIDE = -2, STATE = -3, FULL = -4, NONE = -9;
    private static final int RUNS = 400;
    private static final int CALLS = 512;

    private record Span(int a, int b, int from, int to) {
        boolean lives(int time) {
            return from <= time && time <= to;
        }

        boolean meets(Span s) {
            return a == s.a && b == s.b && from <= s.to && s.from <= to;
        }
    }

    private record Sight(int time, int a, int b, int joined) { }

    private static boolean in(int v, int low, int high) {
        return low <= v && v <= high;
    }

    private static final class Model {
        String text = "";
        List<Span> spans = new ArrayList<>();
        final List<List<Span>> past = new ArrayList<>();
        final List<Sight> seen = new ArrayList<>();
        @SuppressWarnings("unchecked")
        final List<Span>[] kept = (List<Span>[]) new List<?>[2];
        long seed = 0;

        Model copy() {
            Model m = new Model();
            m.spans = new ArrayList<>(spans);
            return m;
        }

        int write(int letter) {
            if (!in(letter, 0, 255)) return OUTSIDE;
            if (text.length() == 64) return FULL;
            text += (char) letter;
            return text.length();
        }

        int wipe() {
            int was = text.length();
            text = "";
            return was;
        }

        /** SPANS of a whole LIFE, or null. */
        static List<Span> read(String t) {
            if (!t.matches("L(\\.|[+-][0-7][0-7]){0,16}")) return null;
            List<Span> found = new ArrayList<>();
            int time = 0;
            for (int i = 1; i < t.length(); time++) {
                if (t.charAt(i) == '.') {
                    i++;
                    continue;
                }
                int p = t.charAt(i + 1) - '0', q = t.charAt(i + 2) - '0';
                int a = Math.min(p, q), b = Math.max(p, q), open = -1;
                for (int s = 0; s < found.size(); s++) {
                    if (found.get(s).a == a && found.get(s).b == b && found.get(s).to == 15) open = s;
                }
                if (a == b || (open < 0) != (t.charAt(i) == '+')) return null;
                if (open < 0) {
                    found.add(new Span(a, b, time, 15));
                } else {
                    found.set(open, new Span(a, b, found.get(open).from, time - 1));
                }
                i += 3;
            }
            return found;
        }

        /** Any start of a LIFE is one after two letters more at most. */
        static boolean canBecomeLife(String start) {
            if (start.isEmpty() || read(start) != null) return true;
            String signs = "+-.01234567";
            for (char c : signs.toCharArray()) {
                if (read(start + c) != null) return true;
                for (char d : signs.toCharArray()) {
                    if (read(start + c + d) != null) return true;
                }
            }
            return false;
        }

        int fault() {
            for (int i = 0; i < text.length(); i++) {
                if (!canBecomeLife(text.substring(0, i + 1))) return i;
            }
            return read(text) == null ? text.length() : NONE;
        }

        int life() {
            List<Span> told = read(text);
            if (told == null) return STATE;
            spans = told;
            past.clear();
            kept[0] = null;
            kept[1] = null;
            return spans.size();
        }

        static void lay(Span s, int node, int low, int high, TreeSet<Integer> nodes) {
            if (s.to < low || high < s.from) return;
            if (s.from <= low && high <= s.to) {
                nodes.add(node);
                return;
            }
            int half = (low + high) / 2;
            lay(s, 2 * node, low, half, nodes);
            lay(s, 2 * node + 1, half + 1, high, nodes);
        }

        static TreeSet<Integer> nodes(Span s) {
            TreeSet<Integer> nodes = new TreeSet<>();
            lay(s, 1, 0, 15, nodes);
            return nodes;
        }

        int span(int span, int what) {
            if (!in(span, 0, spans.size() - 1)) return UNKNOWN;
            Span s = spans.get(span);
            int[] all = {s.a, s.b, s.from, s.to, nodes(s).size()};
            return in(what, 0, 4) ? all[what] : OUTSIDE;
        }

        int node(int node) {
            if (!in(node, 1, 31)) return UNKNOWN;
            int bits = 0;
            for (int i = 0; i < spans.size(); i++) {
                if (nodes(spans.get(i)).contains(node)) bits += 1 << i;
            }
            return bits;
        }

        boolean clashes(Span s, int but) {
            for (int i = 0; i < spans.size(); i++) {
                if (i != but && spans.get(i).meets(s)) return true;
            }
            return false;
        }

        void act(List<Span> next) {
            past.add(spans);
            if (past.size() > 14) past.remove(0);
            spans = next;
        }

        int put(int a, int b, int from, int to) {
            if (!in(a, 0, 7) || !in(b, 0, 7) || !in(from, 0, 15) || !in(to, 0, 15)) return UNKNOWN;
            if (a == b || to < from) return OUTSIDE;
            Span s = new Span(Math.min(a, b), Math.max(a, b), from, to);
            if (clashes(s, -1)) return STATE;
            if (spans.size() == 16) return FULL;
            List<Span> next = new ArrayList<>(spans);
            next.add(s);
            act(next);
            return spans.size() - 1;
        }

        int cut(int span) {
            if (!in(span, 0, spans.size() - 1)) return UNKNOWN;
            List<Span> next = new ArrayList<>(spans);
            next.remove(span);
            act(next);
            return spans.size();
        }

        int end(int span, int time) {
            if (!in(span, 0, spans.size() - 1) || !in(time, 0, 15)) return UNKNOWN;
            Span was = spans.get(span);
            Span s = new Span(was.a, was.b, was.from, time);
            if (was.to == time || time < was.from || clashes(s, span)) return STATE;
            List<Span> next = new ArrayList<>(spans);
            next.set(span, s);
            act(next);
            return was.to;
        }

        int undo() {
            if (past.isEmpty()) return STATE;
            spans = past.remove(past.size() - 1);
            return past.size();
        }

        /** Which KNOTS hang from which, at a TIME. */
        int[] walk(int time) {
            int[] above = {0, 1, 2, 3, 4, 5, 6, 7};
            for (int v : new int[] {1, 2 + time / 8, 4 + time / 4, 8 + time / 2, 16 + time}) {
                for (Span s : spans) {
                    if (nodes(s).contains(v)) join(above, s.a, s.b);
                }
            }
            return above;
        }

        static boolean join(int[] above, int a, int b) {
            int p = root(above, a), q = root(above, b);
            if (p == q) return false;
            int sizeP = size(above, p), sizeQ = size(above, q);
            boolean pBelow = sizeP != sizeQ ? sizeP < sizeQ : p > q;
            if (pBelow) above[p] = q; else above[q] = p;
            return true;
        }

        static int root(int[] above, int k) {
            return above[k] == k ? k : root(above, above[k]);
        }

        static int depth(int[] above, int k) {
            return above[k] == k ? 0 : 1 + depth(above, above[k]);
        }

        static int size(int[] above, int root) {
            int size = 0;
            for (int k = 0; k < 8; k++) {
                if (root(above, k) == root) size++;
            }
            return size;
        }

        /** By how many links one may go from a KNOT to each: bit 0 even, bit 1 odd; only over the SPANS of a set. */
        int[] ways(int from, int time, int set) {
            int[] ways = new int[8];
            Deque<int[]> open = new ArrayDeque<>();
            open.add(new int[] {from, 0});
            ways[from] = 1;
            while (!open.isEmpty()) {
                int[] here = open.poll();
                for (int i = 0; i < spans.size(); i++) {
                    Span s = spans.get(i);
                    if ((set >> i & 1) == 0 || !s.lives(time) || s.a != here[0] && s.b != here[0]) continue;
                    int next = s.a + s.b - here[0], turn = 1 - here[1];
                    if ((ways[next] >> turn & 1) == 0) {
                        ways[next] |= 1 << turn;
                        open.add(new int[] {next, turn});
                    }
                }
            }
            return ways;
        }

        boolean linked(int a, int b, int time, int set) {
            return ways(a, time, set)[b] != 0;
        }

        int parts(int time, int set) {
            int parts = 0;
            for (int k = 0; k < 8; k++) {
                boolean first = true;
                for (int l = 0; l < k; l++) {
                    first &= !linked(k, l, time, set);
                }
                if (first) parts++;
            }
            return parts;
        }

        int living(int time) {
            int bits = 0;
            for (int i = 0; i < spans.size(); i++) {
                if (spans.get(i).lives(time)) bits |= 1 << i;
            }
            return bits;
        }

        int at(int time, int what) {
            if (!in(time, 0, 15)) return UNKNOWN;
            int[] above = walk(time);
            int odd = 0, deepest = 0, greatest = 0;
            for (int k = 0; k < 8; k++) {
                if (above[k] == k && ways(k, time, -1)[k] == 3) odd++;
                deepest = Math.max(deepest, depth(above, k));
                greatest = Math.max(greatest, size(above, k));
            }
            int[] all = {parts(time, -1), living(time), odd, deepest, greatest};
            return in(what, 0, 4) ? all[what] : OUTSIDE;
        }

        int knot(int knot, int time, int what) {
            if (!in(knot, 0, 7) || !in(time, 0, 15)) return UNKNOWN;
            int[] above = walk(time);
            int[] all = {root(above, knot), depth(above, knot), size(above, root(above, knot))};
            return in(what, 0, 2) ? all[what] : OUTSIDE;
        }

        int joined(int a, int b, int time) {
            if (!in(a, 0, 7) || !in(b, 0, 7) || !in(time, 0, 15)) return UNKNOWN;
            return linked(a, b, time, -1) ? 1 : 0;
        }

        int side(int a, int b, int time) {
            if (!in(a, 0, 7) || !in(b, 0, 7) || !in(time, 0, 15)) return UNKNOWN;
            if (a == b) return 0;
            int ways = ways(a, time, -1)[b];
            return ways == 1 ? 0 : ways == 2 ? 1 : STATE;
        }

        int work(int what) {
            if (!in(what, 0, 1)) return OUTSIDE;
            int[] done = new int[2];
            workBelow(1, new int[] {0, 1, 2, 3, 4, 5, 6, 7}, done);
            return done[what];
        }

        void workBelow(int node, int[] above, int[] done) {
            if (node > 31) return;
            int[] here = above.clone();
            for (Span s : spans) {
                if (nodes(s).contains(node)) {
                    done[0]++;
                    if (join(here, s.a, s.b)) done[1]++;
                }
            }
            workBelow(2 * node, here, done);
            workBelow(2 * node + 1, here, done);
        }

        int when(int a, int b) {
            if (!in(a, 0, 7) || !in(b, 0, 7)) return UNKNOWN;
            int bits = 0;
            for (int t = 0; t < 16; t++) {
                if (linked(a, b, t, -1)) bits |= 1 << t;
            }
            return bits;
        }

        int bridges(int time) {
            if (!in(time, 0, 15)) return UNKNOWN;
            int bits = 0;
            for (int i = 0; i < spans.size(); i++) {
                if (spans.get(i).lives(time) && parts(time, ~(1 << i)) > parts(time, -1)) bits |= 1 << i;
            }
            return bits;
        }

        int least(int a, int b, int time, int what) {
            if (!in(a, 0, 7) || !in(b, 0, 7) || !in(time, 0, 15)) return UNKNOWN;
            if (a == b || !in(what, 0, 1)) return OUTSIDE;
            int living = living(time);
            if (Integer.bitCount(living) > 10) return FULL;
            int best = living;
            for (int set = 0; set <= living; set++) {
                if ((set & ~living) != 0 || linked(a, b, time, ~set)) continue;
                int less = Integer.compare(Integer.bitCount(set), Integer.bitCount(best));
                if (less < 0 || less == 0 && set < best) best = set;
            }
            return what == 0 ? Integer.bitCount(best) : best;
        }

        int judge(int n, long row) {
            if (!in(n, 1, 3) || row < 0) return OUTSIDE;
            String figures = Long.toString(row);
            if (figures.length() > 5 * n) return OUTSIDE;
            figures = "0".repeat(5 * n - figures.length()) + figures;
            Model m = copy();
            for (int i = 0; i < n; i++) {
                if (!m.stands(figures.substring(5 * i, 5 * i + 5))) return i;
            }
            return NONE;
        }

        boolean stands(String f) {
            int[] d = f.chars().map(c -> c - '0').toArray();
            int low = Integer.parseInt(f.substring(3));
            return switch (d[0]) {
                case 1 -> put(d[1], d[2], d[3], d[4]) >= 0;
                case 2 -> d[1] == 0 && d[2] == 0 && cut(low) >= 0;
                case 3 -> end(Integer.parseInt(f.substring(1, 3)), low) >= 0;
                case 4 -> joined(d[1], d[2], low) == 1;
                case 5 -> d[1] == 0 && low < 16 && parts(low, -1) >= d[2];
                default -> false;
            };
        }

        int see(int time, int a, int b, int joined) {
            if (!in(time, 0, 15) || !in(a, 0, 7) || !in(b, 0, 7)) return UNKNOWN;
            if (a == b || !in(joined, 0, 1)) return OUTSIDE;
            if (seen.size() == 6) return FULL;
            seen.add(new Sight(time, a, b, joined));
            return seen.size();
        }

        int unsee() {
            int was = seen.size();
            seen.clear();
            return was;
        }

        int missing(int what) {
            if (!in(what, 0, 1)) return OUTSIDE;
            if (spans.size() == 16) return FULL;
            int many = 0, first = NONE;
            for (int p = 0; p < 64 * 256; p++) {
                int a = p >> 11, b = p >> 8 & 7, from = p >> 4 & 15, to = p & 15;
                if (a >= b) continue;
                Model m = copy();
                if (m.put(a, b, from, to) < 0) continue;
                boolean so = true;
                for (Sight s : seen) {
                    so = so && m.joined(s.a, s.b, s.time) == s.joined;
                }
                if (so && first == NONE) first = a * 100000 + b * 10000 + from * 100 + to;
                if (so) many++;
            }
            return what == 0 ? many : first;
        }

        static int told(BigInteger above, BigInteger below, boolean upper) {
            BigInteger common = above.gcd(below);
            return (upper ? above : below).divide(common).intValueExact();
        }

        int share(int span, int time, boolean upper) {
            if (!in(span, 0, spans.size() - 1) || !in(time, 0, 15)) return UNKNOWN;
            int living = living(time);
            if (Integer.bitCount(living) > 8) return FULL;
            if ((living >> span & 1) == 0) return upper ? 0 : 1;
            long[] orders = new long[2];
            allOrders(span, time, 0, living, orders);
            return told(BigInteger.valueOf(orders[0]), BigInteger.valueOf(orders[1]), upper);
        }

        /** Each order by itself, one SPAN more a level; what the SPAN does is known as soon as it has come. */
        void allOrders(int span, int time, int come, int left, long[] orders) {
            if ((left >> span & 1) == 0) {
                long behind = 1;
                for (int i = 2; i <= Integer.bitCount(left); i++) behind *= i;
                orders[0] += behind * (parts(time, come & ~(1 << span)) - parts(time, come));
                orders[1] += behind;
                return;
            }
            for (int i = 0; i < 16; i++) {
                if ((left >> i & 1) != 0) allOrders(span, time, come | 1 << i, left & ~(1 << i), orders);
            }
        }

        int fails(int a, int b, int time, int x, boolean upper) {
            if (!in(a, 0, 7) || !in(b, 0, 7) || !in(time, 0, 15)) return UNKNOWN;
            if (!in(x, 0, 10)) return OUTSIDE;
            int living = living(time);
            if (Integer.bitCount(living) > 8) return FULL;
            BigInteger above = chance(a, b, time, x, 0, living);
            return told(above, BigInteger.TEN.pow(Integer.bitCount(living)), upper);
        }

        BigInteger chance(int a, int b, int time, int x, int held, int left) {
            if (left == 0) return linked(a, b, time, held) ? BigInteger.ONE : BigInteger.ZERO;
            int one = Integer.highestOneBit(left);
            BigInteger holds = chance(a, b, time, x, held | one, left & ~one);
            BigInteger not = chance(a, b, time, x, held, left & ~one);
            return holds.multiply(BigInteger.valueOf(10 - x)).add(not.multiply(BigInteger.valueOf(x)));
        }

        long seed(long v) {
            long was = seed;
            seed = v;
            return was;
        }

        int drawn(int m) {
            if (!in(m, 1, 16)) return OUTSIDE;
            Model copy = copy();
            int together = 0;
            for (int i = 0; i < m; i++) {
                BigInteger x = BigInteger.valueOf(seed).multiply(new BigInteger("6364136223846793005"));
                seed = x.add(new BigInteger("1442695040888963407")).longValue();
                String bits = Long.toBinaryString(seed);
                bits = "0".repeat(64 - bits.length()) + bits;
                int r = Integer.parseInt(bits.substring(0, 31), 2);
                int from = r / 64 % 16;
                copy.put(r % 8, r / 8 % 8, from, Math.min(15, from + r / 1024 % 16));
                together += copy.parts(8, -1);
            }
            return together;
        }

        int keep(int slot) {
            if (!in(slot, 0, 1)) return UNKNOWN;
            kept[slot] = new ArrayList<>(spans);
            return spans.size();
        }

        int again(int slot) {
            if (!in(slot, 0, 1)) return UNKNOWN;
            if (kept[slot] == null) return STATE;
            spans = new ArrayList<>(kept[slot]);
            past.clear();
            return spans.size();
        }

        int count(int what) {
            int bits = 0, together = 0;
            for (int t = 0; t < 16; t++) {
                if (living(t) != 0) bits |= 1 << t;
                together += Integer.bitCount(living(t));
            }
            int[] all = {text.length(), spans.size(), bits, together, past.size(), seen.size()};
            return in(what, 0, 5) ? all[what] : OUTSIDE;
        }
    }

    private static final class Run {
        final Random random;
        final TimeLinks real = new TimeLinks();
        final Model model = new Model();
        final List<String> calls = new ArrayList<>();
        /** Of ten KNOTS and TIMES how many come from a narrow range, so that SPANS meet often. */
        final int narrow;

        Run(long seed) {
            random = new Random(seed);
            narrow = random.nextInt(8);
        }

        /** Mostly 0 to high, at times a number at its edges or far beyond it. */
        int number(int high) {
            int odd = random.nextInt(60);
            if (odd == 0) return -1;
            if (odd == 1) return high + 1;
            if (odd == 2) return new int[] {Integer.MIN_VALUE, Integer.MAX_VALUE, 255, 32}[random.nextInt(4)];
            return random.nextInt(high + 1);
        }

        int knot() {
            return random.nextInt(10) < narrow ? random.nextInt(4) : number(7);
        }

        int time() {
            return random.nextInt(10) < narrow ? 7 + random.nextInt(4) : number(15);
        }

        int spanNumber() {
            return number(Math.max(0, model.spans.size() - 1));
        }

        int letter() {
            String likely = "L+-.01234567";
            return random.nextInt(40) == 0 ? number(255) : likely.charAt(random.nextInt(likely.length()));
        }

        long row(int n) {
            long row = 0;
            for (int i = 0; i < Math.max(1, Math.min(3, n)); i++) {
                row = row * 100000 + doing();
            }
            int odd = random.nextInt(40);
            return odd == 0 ? random.nextLong() : odd == 1 ? row / 10 : row;
        }

        int doing() {
            int a = random.nextInt(9), b = random.nextInt(9), t = random.nextInt(17), s = random.nextInt(17);
            switch (random.nextInt(7)) {
                case 0: return 10000 + a * 1000 + b * 100 + random.nextInt(10) * 10 + random.nextInt(10);
                case 1: return 20000 + s;
                case 2: return 30000 + s % Math.max(1, model.spans.size() + 1) * 100 + t;
                case 3: return 40000 + a * 1000 + b * 100 + t;
                case 4: return 50000 + random.nextInt(10) * 100 + t;
                case 5: return 40000 + a * 1000 + a * 100 + t;
                default: return random.nextInt(100000);
            }
        }

        boolean same(String call, long got, long want) {
            calls.add(call + " = " + got);
            if (got == want) return true;
            System.out.println("due was " + want + " behind:");
            for (String c : calls) System.out.println("  " + c);
            return false;
        }

        boolean writeWhole() {
            StringBuilder t = new StringBuilder("L");
            int events = random.nextInt(18);
            for (int i = 0; i < events; i++) {
                if (random.nextInt(6) == 0) {
                    t.append('.');
                    continue;
                }
                int a = random.nextInt(narrow > 3 ? 4 : 8), b = random.nextInt(narrow > 3 ? 4 : 8);
                for (char sign : new char[] {'+', '-'}) {
                    String more = t.toString() + sign + a + b;
                    if (Model.read(more) != null) {
                        t.append(sign).append(a).append(b);
                        break;
                    }
                }
            }
            if (random.nextInt(3) == 0) t.append((char) letter());
            if (random.nextInt(4) == 0) t.setCharAt(random.nextInt(t.length()), (char) letter());
            if (!same("wipe()", real.wipe(), model.wipe())) return false;
            for (char c : t.toString().toCharArray()) {
                if (!same("write(" + (int) c + ")", real.write(c), model.write(c))) return false;
            }
            return same("fault()", real.fault(), model.fault()) && same("life()", real.life(), model.life());
        }

        boolean step() {
            int kind = random.nextInt(100);
            if (kind < 32) return act();
            if (kind < 74) return look();
            if (kind < 90) return seenAndChances();
            return rest();
        }

        boolean act() {
            int a = knot(), b = knot(), s = spanNumber(), t = time(), u = time();
            int from = random.nextInt(9) > 0 ? Math.min(t, u) : t, to = from == t ? u : t;
            int kind = random.nextInt(10);
            if (kind < 5) {
                return same("put(" + a + ", " + b + ", " + from + ", " + to + ")",
                    real.put(a, b, from, to), model.put(a, b, from, to));
            }
            if (kind < 6) return same("cut(" + s + ")", real.cut(s), model.cut(s));
            if (kind < 8) return same("end(" + s + ", " + t + ")", real.end(s, t), model.end(s, t));
            if (kind < 9 || random.nextInt(10) > 0) return same("undo()", real.undo(), model.undo());
            int slot = number(1);
            return random.nextBoolean() ? same("keep(" + slot + ")", real.keep(slot), model.keep(slot))
                : same("again(" + slot + ")", real.again(slot), model.again(slot));
        }

        boolean look() {
            int a = knot(), b = knot(), t = time(), s = spanNumber(), w = number(4), w2 = number(2), w1 = number(1);
            switch (random.nextInt(12)) {
                case 0: return same("at(" + t + ", " + w + ")", real.at(t, w), model.at(t, w));
                case 1: return same("knot(" + a + ", " + t + ", " + w2 + ")",
                    real.knot(a, t, w2), model.knot(a, t, w2));
                case 2: return same("joined(" + a + ", " + b + ", " + t + ")",
                    real.joined(a, b, t), model.joined(a, b, t));
                case 3: return same("side(" + a + ", " + b + ", " + t + ")", real.side(a, b, t), model.side(a, b, t));
                case 4: return same("work(" + w1 + ")", real.work(w1), model.work(w1));
                case 5: return same("when(" + a + ", " + b + ")", real.when(a, b), model.when(a, b));
                case 6: return same("bridges(" + t + ")", real.bridges(t), model.bridges(t));
                case 7: return same("least(" + a + ", " + b + ", " + t + ", " + w1 + ")",
                    real.least(a, b, t, w1), model.least(a, b, t, w1));
                case 8: return same("span(" + s + ", " + w + ")", real.span(s, w), model.span(s, w));
                case 9: {
                    int node = number(31);
                    return same("node(" + node + ")", real.node(node), model.node(node));
                }
                default: {
                    int n = 1 + number(2);
                    long row = row(n);
                    return same("judge(" + n + ", " + row + ")", real.judge(n, row), model.judge(n, row));
                }
            }
        }

        boolean seenAndChances() {
            int a = knot(), b = knot(), t = time(), s = spanNumber(), j = number(1), x = number(10);
            boolean upper = random.nextBoolean();
            switch (random.nextInt(8)) {
                case 0: return same("unsee()", real.unsee(), model.unsee());
                case 1:
                case 2: return same("see(" + t + ", " + a + ", " + b + ", " + j + ")",
                    real.see(t, a, b, j), model.see(t, a, b, j));
                case 3: {
                    int likely = model.joined(a, b, t);
                    return same("see(" + t + ", " + a + ", " + b + ", " + likely + ")",
                        real.see(t, a, b, likely), model.see(t, a, b, likely));
                }
                case 4: return same("fails(" + a + ", " + b + ", " + t + ", " + x + ", " + upper + ")",
                    real.fails(a, b, t, x, upper), model.fails(a, b, t, x, upper));
                case 5: return random.nextInt(3) > 0 || same("missing(" + j + ")", real.missing(j), model.missing(j));
                default: return tooDear(t) || same("share(" + s + ", " + t + ", " + upper + ")",
                    real.share(s, t, upper), model.share(s, t, upper));
            }
        }

        /** The model goes through all orders: of eight only now and then. */
        boolean tooDear(int t) {
            return in(t, 0, 15) && in(Integer.bitCount(model.living(t)), 7, 8) && random.nextInt(60) > 0;
        }

        boolean rest() {
            int w = number(5), m = number(16), c = letter();
            switch (random.nextInt(6)) {
                case 0: {
                    long v = random.nextInt(3) > 0 ? random.nextLong() : number(3);
                    return same("seed(" + v + ")", real.seed(v), model.seed(v));
                }
                case 1: return same("drawn(" + m + ")", real.drawn(m), model.drawn(m));
                case 2: return same("count(" + w + ")", real.count(w), model.count(w));
                case 3: return same("write(" + c + ")", real.write(c), model.write(c));
                case 4: return same("fault()", real.fault(), model.fault());
                default: return random.nextInt(8) > 0 || writeWhole();
            }
        }

        boolean stateIsSame() {
            boolean ok = true;
            for (int what = 0; what < 6; what++) {
                ok = ok && same("count(" + what + ")", real.count(what), model.count(what));
            }
            for (int s = 0; s < 16; s++) {
                for (int what = 0; what < 5; what++) {
                    ok = ok && same("span(" + s + ", " + what + ")", real.span(s, what), model.span(s, what));
                }
            }
            return ok && same("seed(0)", real.seed(0), model.seed(0));
        }
    }

    private static boolean runIsRight(long seed) {
        Run run = new Run(seed);
        if (run.random.nextInt(3) > 0 && !run.writeWhole()) return false;
        while (run.calls.size() < CALLS) {
            if (!run.step()) return false;
        }
        return run.stateIsSame();
    }

    public static void main(String[] args) {
        int runs = args.length > 0 ? Integer.parseInt(args[0]) : RUNS;
        int from = args.length > 1 ? Integer.parseInt(args[1]) : 0;
        for (int seed = from; seed < from + runs; seed++) {
            if (!runIsRight(seed)) {
                System.out.println("run " + seed + " went wrong");
                System.exit(1);
            }
        }
        System.out.println(runs + " runs went as in the model");
    }
}
