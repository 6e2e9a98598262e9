/** Links between eight knots that come and go over sixteen times; README.md tells how it is used. */
public final class TimeLinks {
    public static final int UNKNOWN = -1, OUTSIDE = -2, STATE = -3, FULL = -4, NONE = -9;

    private static final int KNOTS = 8;
    private static final int TIMES = 16;
    private static final int NODES = 31;
    private static final int LEVELS = 5;
    private static final int ALL_TIMES = 65535;
    private static final int MOST_SPANS = 16;
    private static final int MOST_LETTERS = 64;
    private static final int MOST_ACTS = 14;
    private static final int MOST_SEEN = 6;
    private static final int MOST_DOINGS = 3;
    private static final int MOST_DRAWN = 16;
    private static final int MOST_CUT_APART = 10;
    private static final int MOST_WEIGHED = 8;
    private static final int SLOTS = 2;
    private static final int TENTHS = 10;
    private static final int DRAWN_TIME = 8;
    private static final long DOING = 100000L;
    private static final long SEED_FACTOR = 6364136223846793005L;
    private static final long SEED_STEP = 1442695040888963407L;

    private final Letters text = new Letters();
    private final Spans spans = new Spans();
    /** A copy that may be changed while the SPANS themselves must stay. */
    private final Spans trial = new Spans();
    private final Acts acts = new Acts();
    private final Forest forest = new Forest();
    private final Alive alive = new Alive();
    private final Sightings seen = new Sightings();
    private final Spans[] kept = new Spans[SLOTS];
    private final boolean[] isKept = new boolean[SLOTS];
    private long seedNow;

    public TimeLinks() {
        for (int slot = 0; slot < SLOTS; slot++) {
            kept[slot] = new Spans();
        }
    }

    // ---- the life

    public int write(int letter) {
        if (letter < 0 || letter > 255) {
            return OUTSIDE;
        }
        return text.append(letter);
    }

    public int wipe() {
        int was = text.length;
        text.length = 0;
        return was;
    }

    public int fault() {
        return text.firstFault();
    }

    public int life() {
        if (text.firstFault() != NONE) {
            return STATE;
        }
        text.layOut(spans);
        acts.size = 0;
        for (int slot = 0; slot < SLOTS; slot++) {
            isKept[slot] = false;
        }
        return spans.size;
    }

    public int span(int span, int what) {
        if (!spans.has(span)) {
            return UNKNOWN;
        }
        switch (what) {
            case 0:
                return spans.lesser[span];
            case 1:
                return spans.other[span];
            case 2:
                return spans.first[span];
            case 3:
                return spans.last[span];
            case 4:
                return spans.howManyNodes(span);
            default:
                return OUTSIDE;
        }
    }

    public int node(int node) {
        if (node < 1 || node > NODES) {
            return UNKNOWN;
        }
        return spans.lyingOn(node);
    }

    // ---- acts

    public int put(int a, int b, int from, int to) {
        trial.copyOf(spans);
        return rememberIfDone(spans.add(a, b, from, to));
    }

    public int cut(int span) {
        trial.copyOf(spans);
        return rememberIfDone(spans.drop(span));
    }

    public int end(int span, int time) {
        trial.copyOf(spans);
        return rememberIfDone(spans.stopAt(span, time));
    }

    public int undo() {
        if (acts.size == 0) {
            return STATE;
        }
        acts.takeBackLast(spans);
        return acts.size;
    }

    /** The trial holds the SPANS as they were ahead of an ACT; a refusal is below 0 and is no ACT. */
    private int rememberIfDone(int answer) {
        if (answer >= 0) {
            acts.remember(trial);
        }
        return answer;
    }

    // ---- walks

    public int at(int time, int what) {
        if (!isTime(time)) {
            return UNKNOWN;
        }
        forest.walkToTime(spans, time);
        switch (what) {
            case 0:
                return forest.parts();
            case 1:
                return spans.livingAt(time);
            case 2:
                return forest.oddParts();
            case 3:
                return forest.greatestDepth();
            case 4:
                return forest.greatestSize();
            default:
                return OUTSIDE;
        }
    }

    public int knot(int knot, int time, int what) {
        if (!isKnot(knot) || !isTime(time)) {
            return UNKNOWN;
        }
        forest.walkToTime(spans, time);
        switch (what) {
            case 0:
                return forest.rootOf(knot);
            case 1:
                return forest.depthOf(knot);
            case 2:
                return forest.size[forest.rootOf(knot)];
            default:
                return OUTSIDE;
        }
    }

    public int joined(int a, int b, int time) {
        if (!isKnot(a) || !isKnot(b) || !isTime(time)) {
            return UNKNOWN;
        }
        forest.walkToTime(spans, time);
        return forest.areJoined(a, b) ? 1 : 0;
    }

    public int side(int a, int b, int time) {
        if (!isKnot(a) || !isKnot(b) || !isTime(time)) {
            return UNKNOWN;
        }
        // STATE speaks of two KNOTS, so one is on its own side in an ODD PART too.
        if (a == b) {
            return 0;
        }
        forest.walkToTime(spans, time);
        if (!forest.areJoined(a, b) || forest.odd[forest.rootOf(a)]) {
            return STATE;
        }
        return forest.turnOf(a) ^ forest.turnOf(b);
    }

    public int work(int what) {
        switch (what) {
            case 0:
                return lyingOnAll();
            case 1:
                return joiningOnAll();
            default:
                return OUTSIDE;
        }
    }

    private int lyingOnAll() {
        int lying = 0;
        for (int node = 1; node <= NODES; node++) {
            lying += Integer.bitCount(spans.lyingOn(node));
        }
        return lying;
    }

    /** Each NODE is walked to anew: what joins there is the same as when the way to it is undone step by step. */
    private int joiningOnAll() {
        int joining = 0;
        for (int node = 1; node <= NODES; node++) {
            joining += forest.walkToNode(spans, node);
        }
        return joining;
    }

    public int when(int a, int b) {
        if (!isKnot(a) || !isKnot(b)) {
            return UNKNOWN;
        }
        int bits = 0;
        for (int time = 0; time < TIMES; time++) {
            forest.walkToTime(spans, time);
            if (forest.areJoined(a, b)) {
                bits |= 1 << time;
            }
        }
        return bits;
    }

    public int bridges(int time) {
        if (!isTime(time)) {
            return UNKNOWN;
        }
        alive.gather(spans, time);
        int bits = 0;
        for (int i = 0; i < alive.size; i++) {
            if (!alive.areJoined(alive.lesser[i], alive.other[i], alive.all() ^ (1 << i))) {
                bits |= 1 << alive.number[i];
            }
        }
        return bits;
    }

    public int least(int a, int b, int time, int what) {
        if (!isKnot(a) || !isKnot(b) || !isTime(time)) {
            return UNKNOWN;
        }
        if (a == b || what < 0 || what > 1) {
            return OUTSIDE;
        }
        alive.gather(spans, time);
        if (alive.size > MOST_CUT_APART) {
            return FULL;
        }
        int apart = leastApart(a, b);
        return what == 0 ? Integer.bitCount(apart) : alive.numbersOf(apart);
    }

    /** Sets are tried by how many they have, then by their bits, so the first that parts the two is the least. */
    private int leastApart(int a, int b) {
        int all = alive.all();
        for (int many = 0; many < alive.size; many++) {
            for (int apart = 0; apart <= all; apart++) {
                if (Integer.bitCount(apart) == many && !alive.areJoined(a, b, all ^ apart)) {
                    return apart;
                }
            }
        }
        return all;
    }

    public int judge(int n, long row) {
        if (n < 1 || n > MOST_DOINGS || row < 0 || row >= power(DOING, n)) {
            return OUTSIDE;
        }
        trial.copyOf(spans);
        long unit = power(DOING, n - 1);
        for (int place = 0; place < n && unit > 0; place++) {
            if (!stands((int) (row / unit % DOING))) {
                return place;
            }
            unit /= DOING;
        }
        return NONE;
    }

    /** Does one doing on the trial, so that the next one is judged behind it. */
    private boolean stands(int doing) {
        int second = doing / 1000 % 10;
        int third = doing / 100 % 10;
        int middle = doing / 100 % 100;
        int low = doing % 100;
        switch (doing / 10000) {
            case 1:
                return trial.add(second, third, low / 10, low % 10) >= 0;
            case 2:
                return middle == 0 && trial.drop(low) >= 0;
            case 3:
                return trial.stopAt(middle, low) >= 0;
            case 4:
                return isKnot(second) && isKnot(third) && isTime(low) && areJoinedInTrial(second, third, low);
            case 5:
                return second == 0 && isTime(low) && partsInTrial(low) >= third;
            default:
                return false;
        }
    }

    private boolean areJoinedInTrial(int a, int b, int time) {
        forest.walkToTime(trial, time);
        return forest.areJoined(a, b);
    }

    private int partsInTrial(int time) {
        forest.walkToTime(trial, time);
        return forest.parts();
    }

    // ---- seen

    public int see(int time, int a, int b, int joined) {
        if (!isTime(time) || !isKnot(a) || !isKnot(b)) {
            return UNKNOWN;
        }
        if (a == b || joined < 0 || joined > 1) {
            return OUTSIDE;
        }
        return seen.add(time, a, b, joined == 1);
    }

    public int unsee() {
        int was = seen.size;
        seen.size = 0;
        return was;
    }

    public int missing(int what) {
        if (what < 0 || what > 1) {
            return OUTSIDE;
        }
        if (spans.size >= MOST_SPANS) {
            return FULL;
        }
        seen.lookAt(spans, alive);
        return what == 0 ? howManyMissing() : firstMissing();
    }

    private int howManyMissing() {
        int many = 0;
        for (int a = 0; a < KNOTS; a++) {
            for (int b = a + 1; b < KNOTS; b++) {
                int busy = spans.timesOf(a, b, NONE);
                for (int from = 0; from < TIMES; from++) {
                    many += Integer.bitCount(missingEnds(a, b, from, busy));
                }
            }
        }
        return many;
    }

    private int firstMissing() {
        for (int a = 0; a < KNOTS; a++) {
            for (int b = a + 1; b < KNOTS; b++) {
                int busy = spans.timesOf(a, b, NONE);
                for (int from = 0; from < TIMES; from++) {
                    int ends = missingEnds(a, b, from, busy);
                    if (ends != 0) {
                        return 100000 * a + 10000 * b + 100 * from + lowestBit(ends);
                    }
                }
            }
        }
        return NONE;
    }

    /** The last TIMES (bits) with which a SPAN from that TIME on would be a MISSING one. */
    private int missingEnds(int a, int b, int from, int busy) {
        int ends = 0;
        for (int to = from; to < TIMES && (busy >> to & 1) == 0; to++) {
            if (seen.allSoWith(a, b, stretch(from, to))) {
                ends |= 1 << to;
            }
        }
        return ends;
    }

    // ---- shares, chances

    public int share(int span, int time, boolean upper) {
        if (!spans.has(span) || !isTime(time)) {
            return UNKNOWN;
        }
        alive.gather(spans, time);
        if (alive.size > MOST_WEIGHED) {
            return FULL;
        }
        return told(ordersInWhichItJoins(span), factorial(alive.size), upper);
    }

    /** Orders are counted by which SPANS came ahead: those and the ones behind may stand in any order. */
    private long ordersInWhichItJoins(int span) {
        int place = alive.placeOf(span);
        if (place < 0) {
            return 0;
        }
        long orders = 0;
        for (int ahead = 0; ahead <= alive.all(); ahead++) {
            boolean withoutIt = (ahead >> place & 1) == 0;
            if (withoutIt && !alive.areJoined(alive.lesser[place], alive.other[place], ahead)) {
                int many = Integer.bitCount(ahead);
                orders += factorial(many) * factorial(alive.size - 1 - many);
            }
        }
        return orders;
    }

    public int fails(int a, int b, int time, int x, boolean upper) {
        if (!isKnot(a) || !isKnot(b) || !isTime(time)) {
            return UNKNOWN;
        }
        if (x < 0 || x > TENTHS) {
            return OUTSIDE;
        }
        alive.gather(spans, time);
        if (alive.size > MOST_WEIGHED) {
            return FULL;
        }
        return told(chancesOfJoined(a, b, x), power(TENTHS, alive.size), upper);
    }

    private long chancesOfJoined(int a, int b, int x) {
        long chances = 0;
        for (int holding = 0; holding <= alive.all(); holding++) {
            if (alive.areJoined(a, b, holding)) {
                int many = Integer.bitCount(holding);
                chances += power(TENTHS - x, many) * power(x, alive.size - many);
            }
        }
        return chances;
    }

    public long seed(long v) {
        long was = seedNow;
        seedNow = v;
        return was;
    }

    public int drawn(int m) {
        if (m < 1 || m > MOST_DRAWN) {
            return OUTSIDE;
        }
        trial.copyOf(spans);
        int together = 0;
        for (int i = 0; i < m; i++) {
            seedNow = seedNow * SEED_FACTOR + SEED_STEP;
            addDrawn((int) (seedNow >>> 33));
            together += partsInTrial(DRAWN_TIME);
        }
        return together;
    }

    /** A refusal is passed over, for what can not be PUT is not. */
    private void addDrawn(int figure) {
        int from = figure / 64 % TIMES;
        int to = Math.min(from + figure / 1024 % TIMES, TIMES - 1);
        trial.add(figure % KNOTS, figure / 8 % KNOTS, from, to);
    }

    // ---- slots

    public int keep(int slot) {
        if (slot < 0 || slot >= SLOTS) {
            return UNKNOWN;
        }
        kept[slot].copyOf(spans);
        isKept[slot] = true;
        return spans.size;
    }

    public int again(int slot) {
        if (slot < 0 || slot >= SLOTS) {
            return UNKNOWN;
        }
        if (!isKept[slot]) {
            return STATE;
        }
        spans.copyOf(kept[slot]);
        acts.size = 0;
        return spans.size;
    }

    public int count(int what) {
        switch (what) {
            case 0:
                return text.length;
            case 1:
                return spans.size;
            case 2:
                return spans.timesFilled();
            case 3:
                return spans.timesTogether();
            case 4:
                return acts.size;
            case 5:
                return seen.size;
            default:
                return OUTSIDE;
        }
    }

    // ---- what all of these use

    private static boolean isKnot(int knot) {
        return knot >= 0 && knot < KNOTS;
    }

    private static boolean isTime(int time) {
        return time >= 0 && time < TIMES;
    }

    /** The TIMES from one to another as bits; none, if they are not TIMES in this order. */
    private static int stretch(int from, int to) {
        if (!isTime(from) || !isTime(to) || to < from) {
            return 0;
        }
        return (ALL_TIMES >> (TIMES - 1 - (to - from))) << from;
    }

    private static int lowestBit(int times) {
        for (int time = 0; time < TIMES; time++) {
            if ((times >> time & 1) != 0) {
                return time;
            }
        }
        return NONE;
    }

    private static long power(long base, int exponent) {
        long product = 1;
        for (int i = 0; i < exponent; i++) {
            product *= base;
        }
        return product;
    }

    private static long factorial(int n) {
        long product = 1;
        for (int i = 2; i <= n; i++) {
            product *= i;
        }
        return product;
    }

    /** One half of a FRACTION in least terms; it is at most 10 to the 8th here, so an int holds it. */
    private static int told(long above, long below, boolean upper) {
        long common = commonDivisor(above, below);
        if (common < 1) {
            return 0;
        }
        return (int) ((upper ? above : below) / common);
    }

    private static long commonDivisor(long a, long b) {
        long one = a;
        long other = b;
        for (int i = 0; i < 100 && other != 0; i++) {
            long rest = one % other;
            one = other;
            other = rest;
        }
        return one;
    }

    /** THE TEXT, and the EVENTS that it tells, as far as they were read last. */
    private static final class Letters {
        private final char[] letters = new char[MOST_LETTERS];
        private int length;
        private final int[] linkedWith = new int[KNOTS];
        private int links;
        private final char[] sign = new char[TIMES];
        private final int[] one = new int[TIMES];
        private final int[] two = new int[TIMES];
        private int events;

        int append(int letter) {
            if (length >= MOST_LETTERS) {
                return FULL;
            }
            letters[length] = (char) letter;
            length++;
            return length;
        }

        int firstFault() {
            forgetLinks();
            if (length == 0 || letters[0] != 'L') {
                return 0;
            }
            int place = 1;
            for (events = 0; events < TIMES && place < length; events++) {
                int wrong = faultOfEvent(place);
                if (wrong != NONE) {
                    return wrong;
                }
                takeEvent(place);
                place += letters[place] == '.' ? 1 : 3;
            }
            return place < length ? place : NONE;
        }

        private void forgetLinks() {
            links = 0;
            for (int knot = 0; knot < KNOTS; knot++) {
                linkedWith[knot] = 0;
            }
        }

        private int faultOfEvent(int place) {
            char head = letters[place];
            if (head == '.') {
                return NONE;
            }
            if (head != '+' && (head != '-' || links == 0)) {
                return place;
            }
            if (place + 1 >= length) {
                return length;
            }
            int a = letters[place + 1] - '0';
            if (!isKnot(a) || partners(a, head) == 0) {
                return place + 1;
            }
            if (place + 2 >= length) {
                return length;
            }
            int b = letters[place + 2] - '0';
            return isKnot(b) && (partners(a, head) >> b & 1) != 0 ? NONE : place + 2;
        }

        /** The KNOTS (bits) that may stand behind this one, in an EVENT of that sign. */
        private int partners(int knot, char head) {
            int others = ((1 << KNOTS) - 1) ^ (1 << knot);
            return head == '+' ? others & ~linkedWith[knot] : linkedWith[knot];
        }

        /** Only for an EVENT without a fault: its letters are all there. */
        private void takeEvent(int place) {
            char head = letters[place];
            sign[events] = head;
            if (head != '.') {
                int a = letters[place + 1] - '0';
                int b = letters[place + 2] - '0';
                linkedWith[a] ^= 1 << b;
                linkedWith[b] ^= 1 << a;
                links += head == '+' ? 1 : -1;
                one[events] = a;
                two[events] = b;
            }
        }

        /** Only behind firstFault, which reads the EVENTS. */
        void layOut(Spans spans) {
            spans.size = 0;
            for (int time = 0; time < events; time++) {
                if (sign[time] == '+') {
                    spans.add(one[time], two[time], time, TIMES - 1);
                }
                if (sign[time] == '-') {
                    spans.stopAt(spans.lastOf(one[time], two[time]), time - 1);
                }
            }
        }
    }

    /** SPANS by their numbers. */
    private static final class Spans {
        private final int[] lesser = new int[MOST_SPANS];
        private final int[] other = new int[MOST_SPANS];
        private final int[] first = new int[MOST_SPANS];
        private final int[] last = new int[MOST_SPANS];
        private int size;

        boolean has(int span) {
            return span >= 0 && span < size;
        }

        void copyOf(Spans from) {
            size = from.size;
            for (int span = 0; span < size; span++) {
                takeFrom(from, span, span);
            }
        }

        private void takeFrom(Spans from, int there, int here) {
            lesser[here] = from.lesser[there];
            other[here] = from.other[there];
            first[here] = from.first[there];
            last[here] = from.last[there];
        }

        /** PUT: its number, or why not. */
        int add(int a, int b, int from, int to) {
            if (!isKnot(a) || !isKnot(b) || !isTime(from) || !isTime(to)) {
                return UNKNOWN;
            }
            if (a == b || to < from) {
                return OUTSIDE;
            }
            if ((timesOf(a, b, NONE) & stretch(from, to)) != 0) {
                return STATE;
            }
            if (size >= MOST_SPANS) {
                return FULL;
            }
            lesser[size] = Math.min(a, b);
            other[size] = Math.max(a, b);
            first[size] = from;
            last[size] = to;
            size++;
            return size - 1;
        }

        /** CUT: how many are left, or why not. */
        int drop(int span) {
            if (!has(span)) {
                return UNKNOWN;
            }
            size--;
            for (int i = span; i < size; i++) {
                takeFrom(this, i + 1, i);
            }
            return size;
        }

        /** ENDED: the last TIME that was, or why not. */
        int stopAt(int span, int time) {
            if (!has(span) || !isTime(time)) {
                return UNKNOWN;
            }
            int was = last[span];
            if (time == was || time < first[span]) {
                return STATE;
            }
            if ((timesOf(lesser[span], other[span], span) & stretch(first[span], time)) != 0) {
                return STATE;
            }
            last[span] = time;
            return was;
        }

        private boolean isOf(int span, int a, int b) {
            return lesser[span] == Math.min(a, b) && other[span] == Math.max(a, b);
        }

        int lastOf(int a, int b) {
            for (int span = size - 1; span >= 0; span--) {
                if (isOf(span, a, b)) {
                    return span;
                }
            }
            return NONE;
        }

        /** TIMES (bits) that SPANS of these two fill, but for one SPAN that is passed over. */
        int timesOf(int a, int b, int passedOver) {
            int times = 0;
            for (int span = 0; span < size; span++) {
                if (span != passedOver && isOf(span, a, b)) {
                    times |= stretch(first[span], last[span]);
                }
            }
            return times;
        }

        int timesFilled() {
            int times = 0;
            for (int span = 0; span < size; span++) {
                times |= stretch(first[span], last[span]);
            }
            return times;
        }

        int timesTogether() {
            int times = 0;
            for (int span = 0; span < size; span++) {
                times += last[span] - first[span] + 1;
            }
            return times;
        }

        boolean livesAt(int span, int time) {
            return first[span] <= time && time <= last[span];
        }

        int livingAt(int time) {
            int bits = 0;
            for (int span = 0; span < size; span++) {
                if (livesAt(span, time)) {
                    bits |= 1 << span;
                }
            }
            return bits;
        }

        /** NODE 1 has none above it; 0 stands for that one, and nothing fills it. */
        private boolean fills(int span, int node) {
            if (node < 1) {
                return false;
            }
            int low = node;
            int high = node;
            for (int level = 1; level < LEVELS && low < TIMES; level++) {
                low = 2 * low;
                high = 2 * high + 1;
            }
            return first[span] <= low - TIMES && high - TIMES <= last[span];
        }

        boolean lies(int span, int node) {
            return fills(span, node) && !fills(span, node / 2);
        }

        int lyingOn(int node) {
            int bits = 0;
            for (int span = 0; span < size; span++) {
                if (lies(span, node)) {
                    bits |= 1 << span;
                }
            }
            return bits;
        }

        int howManyNodes(int span) {
            int many = 0;
            for (int node = 1; node <= NODES; node++) {
                if (lies(span, node)) {
                    many++;
                }
            }
            return many;
        }
    }

    /** THE ROW of ACTS: for each the SPANS as they were ahead of it, which is all that undoing it needs. */
    private static final class Acts {
        private final Spans[] ahead = new Spans[MOST_ACTS];
        private int size;

        Acts() {
            for (int i = 0; i < MOST_ACTS; i++) {
                ahead[i] = new Spans();
            }
        }

        void remember(Spans were) {
            if (size >= MOST_ACTS) {
                forgetFirst();
            }
            ahead[size].copyOf(were);
            size++;
        }

        /** The forgotten one's rows go to the end of the row, to be used again. */
        private void forgetFirst() {
            Spans forgotten = ahead[0];
            for (int i = 1; i < MOST_ACTS; i++) {
                ahead[i - 1] = ahead[i];
            }
            ahead[MOST_ACTS - 1] = forgotten;
            size = MOST_ACTS - 1;
        }

        void takeBackLast(Spans spans) {
            if (size > 0) {
                size--;
                spans.copyOf(ahead[size]);
            }
        }
    }

    /** KNOTS as THE WALK hangs them. */
    private static final class Forest {
        private final int[] above = new int[KNOTS];
        private final int[] size = new int[KNOTS];
        /** 1, if a KNOT is on the other SIDE than the one that it hangs from. */
        private final int[] turn = new int[KNOTS];
        private final boolean[] odd = new boolean[KNOTS];

        private void takeApart() {
            for (int knot = 0; knot < KNOTS; knot++) {
                above[knot] = knot;
                size[knot] = 1;
                turn[knot] = 0;
                odd[knot] = false;
            }
        }

        void walkToTime(Spans spans, int time) {
            walkToNode(spans, TIMES + time);
        }

        /** Answers how many SPANS join two ROOTS at that NODE itself. */
        int walkToNode(Spans spans, int node) {
            takeApart();
            int joining = 0;
            for (int up = LEVELS - 1; up >= 0; up--) {
                joining = joinAllOn(spans, node >> up);
            }
            return joining;
        }

        private int joinAllOn(Spans spans, int node) {
            int joining = 0;
            for (int span = 0; span < spans.size; span++) {
                if (spans.lies(span, node) && join(spans.lesser[span], spans.other[span])) {
                    joining++;
                }
            }
            return joining;
        }

        private boolean join(int a, int b) {
            int rootA = rootOf(a);
            int rootB = rootOf(b);
            int between = turnOf(a) ^ turnOf(b) ^ 1;
            if (rootA == rootB) {
                odd[rootA] |= between == 1;
                return false;
            }
            if (hangsBelow(rootA, rootB)) {
                hang(rootA, rootB, between);
            } else {
                hang(rootB, rootA, between);
            }
            return true;
        }

        private boolean hangsBelow(int root, int another) {
            return size[root] < size[another] || (size[root] == size[another] && root > another);
        }

        private void hang(int root, int below, int between) {
            above[root] = below;
            size[below] += size[root];
            turn[root] = between;
            odd[below] |= odd[root];
        }

        int rootOf(int knot) {
            int top = knot;
            for (int i = 0; i < KNOTS; i++) {
                top = above[top];
            }
            return top;
        }

        int depthOf(int knot) {
            int depth = 0;
            int top = knot;
            for (int i = 0; i < KNOTS && above[top] != top; i++) {
                top = above[top];
                depth++;
            }
            return depth;
        }

        int turnOf(int knot) {
            int turns = 0;
            int top = knot;
            for (int i = 0; i < KNOTS && above[top] != top; i++) {
                turns ^= turn[top];
                top = above[top];
            }
            return turns;
        }

        boolean areJoined(int a, int b) {
            return rootOf(a) == rootOf(b);
        }

        int parts() {
            int parts = 0;
            for (int knot = 0; knot < KNOTS; knot++) {
                if (above[knot] == knot) {
                    parts++;
                }
            }
            return parts;
        }

        int oddParts() {
            int parts = 0;
            for (int knot = 0; knot < KNOTS; knot++) {
                if (above[knot] == knot && odd[knot]) {
                    parts++;
                }
            }
            return parts;
        }

        int greatestDepth() {
            int greatest = 0;
            for (int knot = 0; knot < KNOTS; knot++) {
                greatest = Math.max(greatest, depthOf(knot));
            }
            return greatest;
        }

        int greatestSize() {
            int greatest = 0;
            for (int knot = 0; knot < KNOTS; knot++) {
                greatest = Math.max(greatest, size[knot]);
            }
            return greatest;
        }
    }

    /** SPANS that live at one TIME, by places, so that sets of them are bits without gaps. */
    private static final class Alive {
        private final int[] number = new int[MOST_SPANS];
        private final int[] lesser = new int[MOST_SPANS];
        private final int[] other = new int[MOST_SPANS];
        private final int[] pair = new int[MOST_SPANS];
        private int size;

        void gather(Spans spans, int time) {
            size = 0;
            for (int span = 0; span < spans.size; span++) {
                if (spans.livesAt(span, time)) {
                    number[size] = span;
                    lesser[size] = spans.lesser[span];
                    other[size] = spans.other[span];
                    pair[size] = (1 << spans.lesser[span]) | (1 << spans.other[span]);
                    size++;
                }
            }
        }

        int all() {
            return (1 << size) - 1;
        }

        int placeOf(int span) {
            for (int place = 0; place < size; place++) {
                if (number[place] == span) {
                    return place;
                }
            }
            return NONE;
        }

        int numbersOf(int places) {
            int bits = 0;
            for (int place = 0; place < size; place++) {
                if ((places >> place & 1) != 0) {
                    bits |= 1 << number[place];
                }
            }
            return bits;
        }

        /** KNOTS (bits) that are JOINED with this one if only SPANS at these places live. */
        int reach(int knot, int places) {
            int reached = 1 << knot;
            for (int round = 1; round < KNOTS; round++) {
                int before = reached;
                for (int place = 0; place < size; place++) {
                    if ((places >> place & 1) != 0 && (pair[place] & reached) != 0) {
                        reached |= pair[place];
                    }
                }
                if (reached == before) {
                    break;
                }
            }
            return reached;
        }

        boolean areJoined(int a, int b, int places) {
            return (reach(a, places) >> b & 1) != 0;
        }
    }

    /** What was SEEN, and the PARTS of both KNOTS as SPANS are now, when it was looked at last. */
    private static final class Sightings {
        private final int[] time = new int[MOST_SEEN];
        private final int[] one = new int[MOST_SEEN];
        private final int[] two = new int[MOST_SEEN];
        private final boolean[] wereJoined = new boolean[MOST_SEEN];
        private final int[] partOfOne = new int[MOST_SEEN];
        private final int[] partOfTwo = new int[MOST_SEEN];
        private int size;

        int add(int when, int a, int b, boolean joined) {
            if (size >= MOST_SEEN) {
                return FULL;
            }
            time[size] = when;
            one[size] = a;
            two[size] = b;
            wereJoined[size] = joined;
            size++;
            return size;
        }

        /** Ahead of allSoWith, so that thousands of SPANS can be tried against it without a walk each. */
        void lookAt(Spans spans, Alive alive) {
            for (int i = 0; i < size; i++) {
                alive.gather(spans, time[i]);
                partOfOne[i] = alive.reach(one[i], alive.all());
                partOfTwo[i] = alive.reach(two[i], alive.all());
            }
        }

        boolean allSoWith(int a, int b, int times) {
            for (int i = 0; i < size; i++) {
                if (joinedWith(i, a, b, times) != wereJoined[i]) {
                    return false;
                }
            }
            return true;
        }

        private boolean joinedWith(int i, int a, int b, int times) {
            if (partOfOne[i] == partOfTwo[i]) {
                return true;
            }
            if ((times >> time[i] & 1) == 0) {
                return false;
            }
            return leads(i, a, b) || leads(i, b, a);
        }

        private boolean leads(int i, int from, int to) {
            return (partOfOne[i] >> from & 1) != 0 && (partOfTwo[i] >> to & 1) != 0;
        }
    }
}
