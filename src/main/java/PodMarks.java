import java.util.Arrays;

/** Marks on pods: which growers' marks can be told apart, and whose a seen pod was. */
public final class PodMarks {
    public static final int NONE = -1, UNKNOWN = -1001, OUTSIDE = -1002, NOT = -1003, FULL = -1004, LARGE = -1005;

    private static final int LISTS = 6;
    private static final int ROOM = 64;
    private static final int LEAST_PLACES = 2;
    private static final int MOST_PLACES = 12;
    private static final int SETS = 1 << MOST_PLACES;
    private static final int MOST_STRAY = 4;
    private static final int MOST_SEED = 4095;
    private static final int MOST_RING = 3;
    private static final int READ_FAULT = -10;

    private final Island isle = new Island();
    private final MarkList[] lists = new MarkList[LISTS];
    private final MarkList fresh = new MarkList();
    private final Reading reading = new Reading();
    private final Text text = new Text();
    private final Rule rule = new Rule();
    private final Largest largest = new Largest();
    private final Covers covers = new Covers();

    public PodMarks() {
        for (int k = 0; k < LISTS; k++) {
            lists[k] = new MarkList();
        }
    }

    // ---- the island

    public int places(int n) {
        if (n < LEAST_PLACES || n > MOST_PLACES) {
            return OUTSIDE;
        }
        isle.n = n;
        for (int k = 0; k < LISTS; k++) {
            lists[k].wipe();
        }
        reading.forget();
        largest.forget();
        return n;
    }

    public int island(int kind, int t, int a) {
        if (!within(kind, Island.LOSING, Island.EITHER_END) || !within(t, 0, MOST_STRAY) || !within(a, 0, MOST_STRAY)) {
            return OUTSIDE;
        }
        isle.kind = kind;
        isle.t = t;
        isle.a = a;
        largest.forget();
        return 1;
    }

    public int is(int what) {
        switch (what) {
            case 0:
                return isle.n;
            case 1:
                return isle.kind;
            case 2:
                return isle.t;
            case 3:
                return isle.a;
            default:
                return OUTSIDE;
        }
    }

    public int turned(int m) {
        return isle.isSet(m) ? isle.reversed(m) : OUTSIDE;
    }

    public int may(int m, int s, int l) {
        if (!isle.isSet(m) || !isle.isSeen(s, l)) {
            return OUTSIDE;
        }
        return isle.canShow(m, s, l) ? 1 : 0;
    }

    public int between(int m, int k, int what) {
        if (!isle.isSet(m) || !isle.isSet(k) || !within(what, 0, 1)) {
            return OUTSIDE;
        }
        return what == 0 ? isle.witnessSeen(m, k) : isle.witnessLost(m, k);
    }

    public int fills(int m) {
        return isle.isSet(m) ? isle.sightsOf(m) : OUTSIDE;
    }

    // ---- lists

    public int add(int list, int m) {
        if (!isList(list)) {
            return UNKNOWN;
        }
        if (!isle.isSet(m)) {
            return OUTSIDE;
        }
        if (lists[list].holds(m)) {
            return NOT;
        }
        return lists[list].append(m) ? lists[list].size : FULL;
    }

    public int drop(int list, int i) {
        if (!isMark(list, i)) {
            return UNKNOWN;
        }
        lists[list].remove(i);
        return lists[list].size;
    }

    public int clear(int list) {
        if (!isList(list)) {
            return UNKNOWN;
        }
        int had = lists[list].size;
        lists[list].wipe();
        return had;
    }

    public int mark(int list, int i) {
        if (!isList(list)) {
            return UNKNOWN;
        }
        if (i == NONE) {
            return lists[list].size;
        }
        return isMark(list, i) ? lists[list].marks[i] : UNKNOWN;
    }

    public int good(int list, int what) {
        if (!isList(list)) {
            return UNKNOWN;
        }
        if (!within(what, 0, 4)) {
            return OUTSIDE;
        }
        MarkList those = lists[list];
        for (int i = 0; i < those.size; i++) {
            int j = firstAlike(those, those.marks[i], i + 1);
            if (j != NONE) {
                return ofBadPair(those, i, j, what);
            }
        }
        return what == 0 ? 1 : NONE;
    }

    public int build(int list, int seed, int many) {
        if (!isList(list)) {
            return UNKNOWN;
        }
        if (!within(seed, 0, MOST_SEED) || !within(many, 0, ROOM)) {
            return OUTSIDE;
        }
        MarkList those = lists[list];
        int all = isle.all();
        for (int k = 0; k <= all && those.size < many; k++) {
            int m = (k * (2 * seed + 1) + seed) & all;
            if (firstAlike(those, m, 0) == NONE) {
                those.append(m);
            }
        }
        return those.size;
    }

    public int most(int w, int i) {
        if (!within(w, NONE, Largest.MOST_PINS)) {
            return OUTSIDE;
        }
        if (isle.n > Largest.MOST_PINS) {
            return LARGE;
        }
        largest.seek(isle, w);
        if (i == NONE) {
            return largest.size;
        }
        return within(i, 0, largest.size - 1) ? largest.row[i] : NONE;
    }

    public int bound() {
        int least = isle.leastSights();
        return least > 0 ? isle.allSights() / least : 0;
    }

    // ---- lists of lists

    public int lay(int to, int a, int b, int p) {
        if (!isList(to) || !isList(a) || !isList(b)) {
            return UNKNOWN;
        }
        if (!within(p, 1, isle.n - 1)) {
            return OUTSIDE;
        }
        fresh.wipe();
        for (int i = 0; i < lists[a].size; i++) {
            int front = lists[a].marks[i] & ((1 << p) - 1);
            for (int j = 0; j < lists[b].size; j++) {
                int back = (lists[b].marks[j] << p) & isle.all();
                if (!fresh.appendOnce(front | back)) {
                    return FULL;
                }
            }
        }
        return becomesFresh(to);
    }

    public int join(int to, int a, int b) {
        if (!isList(to) || !isList(a) || !isList(b)) {
            return UNKNOWN;
        }
        fresh.copy(lists[a]);
        for (int j = 0; j < lists[b].size; j++) {
            if (!fresh.appendOnce(lists[b].marks[j])) {
                return FULL;
            }
        }
        return becomesFresh(to);
    }

    public int shorten(int to, int a, int p) {
        if (!isList(to) || !isList(a)) {
            return UNKNOWN;
        }
        if (!isPlace(p)) {
            return OUTSIDE;
        }
        int below = (1 << p) - 1;
        fresh.wipe();
        for (int i = 0; i < lists[a].size; i++) {
            int m = lists[a].marks[i];
            fresh.appendOnce((m & below) | ((m >> 1) & ~below));
        }
        return becomesFresh(to);
    }

    public int turn(int to, int a) {
        if (!isList(to) || !isList(a)) {
            return UNKNOWN;
        }
        fresh.wipe();
        for (int i = 0; i < lists[a].size; i++) {
            fresh.appendOnce(isle.reversed(lists[a].marks[i]));
        }
        return becomesFresh(to);
    }

    public int even(int to, int a, int p) {
        if (!isList(to) || !isList(a)) {
            return UNKNOWN;
        }
        if (!isPlace(p)) {
            return OUTSIDE;
        }
        fresh.wipe();
        for (int i = 0; i < lists[a].size; i++) {
            int others = lists[a].marks[i] & ~(1 << p);
            fresh.appendOnce(others | ((Integer.bitCount(others) & 1) << p));
        }
        return becomesFresh(to);
    }

    // ---- rules

    public int feed(int n, long bytes) {
        if (!within(n, 1, Text.BYTES_OF_LONG)) {
            return OUTSIDE;
        }
        return text.take(n, bytes) ? text.length : FULL;
    }

    public int read(int to) {
        if (!isList(to)) {
            return UNKNOWN;
        }
        rule.parse(text);
        text.length = 0;
        if (rule.faultKind != 0) {
            return READ_FAULT - rule.faultKind;
        }
        fresh.wipe();
        for (int m = 0; m <= isle.all(); m++) {
            if (rule.suits(m, isle, lists) && !fresh.append(m)) {
                return LARGE;
            }
        }
        return becomesFresh(to);
    }

    public int fault() {
        return rule.faultAt;
    }

    public int count(int what) {
        switch (what) {
            case 0:
                return marksInAll();
            case 1:
                return text.length;
            case 2:
                return reading.lookedAt();
            default:
                return OUTSIDE;
        }
    }

    // ---- owners, readings

    public int owner(int list, int s, int l, int i) {
        if (!isList(list)) {
            return UNKNOWN;
        }
        if (!isle.isSeen(s, l)) {
            return OUTSIDE;
        }
        MarkList those = lists[list];
        int found = 0;
        for (int k = 0; k < those.size; k++) {
            if (isle.canShow(those.marks[k], s, l)) {
                if (found == i) {
                    return k;
                }
                found++;
            }
        }
        return i == NONE ? found : NONE;
    }

    public int look(int place, int v) {
        if (!isPlace(place) || !within(v, NONE, Reading.SURE)) {
            return OUTSIDE;
        }
        int was = reading.numbers[place];
        reading.numbers[place] = v;
        return was;
    }

    public long chance(int list, int i) {
        return isMark(list, i) ? reading.chanceOf(lists[list].marks[i]) : UNKNOWN;
    }

    public int likely(int list, int i) {
        if (!isList(list)) {
            return UNKNOWN;
        }
        reading.weigh(lists[list]);
        return i == NONE ? reading.possible() : reading.ranked(i);
    }

    // ---- heaps, rings

    public int heap(int list, int s, int h, int what) {
        if (!isList(list)) {
            return UNKNOWN;
        }
        if (!isle.isSet(s) || !within(h, 1, MOST_RING) || !within(what, NONE, MOST_RING)) {
            return OUTSIDE;
        }
        MarkList those = lists[list];
        covers.start(s);
        for (int i = 0; i < those.size; i++) {
            if ((those.marks[i] & ~s) == 0) {
                covers.offer(i, those.marks[i]);
            }
        }
        covers.search(h);
        if (what == NONE) {
            return covers.found;
        }
        return what == 0 ? covers.fewest : covers.firstAt(what - 1);
    }

    public int make(int list, int i, int j, int k, int s) {
        if (!isMark(list, i) || !isMarkOrNone(list, j) || !isMarkOrNone(list, k)) {
            return UNKNOWN;
        }
        if (!isle.isSet(s)) {
            return OUTSIDE;
        }
        int[] marks = lists[list].marks;
        int second = j == NONE ? i : j;
        int third = k == NONE ? i : k;
        int met = isle.agreement(marks[i], s) | isle.agreement(marks[second], s) | isle.agreement(marks[third], s);
        return met == isle.all() ? 1 : 0;
    }

    public int trace(int list, int s, int h, int what) {
        if (!isList(list)) {
            return UNKNOWN;
        }
        if (!isle.isSet(s) || !within(h, 1, MOST_RING) || !within(what, 0, 2)) {
            return OUTSIDE;
        }
        findRings(list, s, h);
        switch (what) {
            case 0:
                return covers.found;
            case 1:
                return covers.fewest;
            default:
                return covers.found == 0 ? NONE : Long.bitCount(covers.common);
        }
    }

    public int inAll(int list, int s, int h, int i) {
        if (!isList(list)) {
            return UNKNOWN;
        }
        if (!isle.isSet(s) || !within(h, 1, MOST_RING)) {
            return OUTSIDE;
        }
        findRings(list, s, h);
        return covers.found == 0 ? NONE : covers.commonAt(i);
    }

    public int framed(int list, int h) {
        if (!isList(list)) {
            return UNKNOWN;
        }
        if (!within(h, 1, MOST_RING)) {
            return OUTSIDE;
        }
        int many = 0;
        for (int i = 0; i < lists[list].size; i++) {
            offerRings(list, lists[list].marks[i], i);
            if (covers.canCover(h)) {
                many++;
            }
        }
        return many;
    }

    // ---- helpers of the face

    private static boolean within(int v, int least, int greatest) {
        return v >= least && v <= greatest;
    }

    private static boolean isList(int list) {
        return within(list, 0, LISTS - 1);
    }

    private boolean isMark(int list, int i) {
        return isList(list) && within(i, 0, lists[list].size - 1);
    }

    private boolean isMarkOrNone(int list, int i) {
        return i == NONE || isMark(list, i);
    }

    private boolean isPlace(int p) {
        return within(p, 0, isle.n - 1);
    }

    private int firstAlike(MarkList those, int m, int from) {
        int back = isle.reversed(m);
        for (int j = from; j < those.size; j++) {
            if (isle.alike(m, back, those.marks[j])) {
                return j;
            }
        }
        return NONE;
    }

    private int ofBadPair(MarkList those, int i, int j, int what) {
        switch (what) {
            case 0:
                return 0;
            case 1:
                return i;
            case 2:
                return j;
            case 3:
                return isle.witnessSeen(those.marks[i], those.marks[j]);
            default:
                return isle.witnessLost(those.marks[i], those.marks[j]);
        }
    }

    private int becomesFresh(int to) {
        lists[to].copy(fresh);
        return fresh.size;
    }

    private int marksInAll() {
        int sum = 0;
        for (int k = 0; k < LISTS; k++) {
            sum += lists[k].size;
        }
        return sum;
    }

    private void findRings(int list, int s, int h) {
        offerRings(list, s, NONE);
        covers.search(h);
    }

    /** A ring can make s just where at every place some member agrees with s: so rings cover places, as heaps do. */
    private void offerRings(int list, int s, int without) {
        MarkList those = lists[list];
        covers.start(isle.all());
        for (int i = 0; i < those.size; i++) {
            if (i != without) {
                covers.offer(i, isle.agreement(those.marks[i], s));
            }
        }
    }

    /** What can befall a pod, and what follows from it for single marks and pairs. */
    private static final class Island {
        static final int LOSING = 0, BLIND = 1, ADDING = 2, EITHER_END = 3;

        int n = 7;
        int kind = LOSING;
        int t = 1;
        int a = 0;

        int all() {
            return (1 << n) - 1;
        }

        boolean isSet(int m) {
            return m >= 0 && m <= all();
        }

        boolean isSeen(int s, int l) {
            return isSet(s) && isSet(l) && (s & l) == 0;
        }

        int reversed(int m) {
            int back = 0;
            for (int k = 0; k < n; k++) {
                back = (back << 1) | ((m >> k) & 1);
            }
            return back;
        }

        int agreement(int m, int s) {
            return ~(m ^ s) & all();
        }

        /** A blind island is an adding one on which none is added. */
        private int extra() {
            return kind == BLIND ? 0 : a;
        }

        boolean canShow(int m, int s, int l) {
            if (kind == LOSING) {
                return Integer.bitCount(l) <= t && (m & ~l) == s;
            }
            if (l != 0) {
                return false;
            }
            return strays(m, s) || (kind == EITHER_END && strays(reversed(m), s));
        }

        private boolean strays(int m, int s) {
            return Integer.bitCount(m & ~s) <= t && Integer.bitCount(s & ~m) <= extra();
        }

        /** back is m reversed: given, since one m is often held against many k. */
        boolean alike(int m, int back, int k) {
            if (kind == LOSING) {
                return Integer.bitCount(m ^ k) <= t;
            }
            return near(m, k) || (kind == EITHER_END && near(back, k));
        }

        /** A pin of one mark alone is either unseen on it or added on the other: t + extra of them can be so. */
        private boolean near(int m, int k) {
            int far = t + extra();
            return Integer.bitCount(m & ~k) <= far && Integer.bitCount(k & ~m) <= far;
        }

        int witnessLost(int m, int k) {
            if (!alike(m, reversed(m), k)) {
                return NONE;
            }
            return kind == LOSING ? m ^ k : 0;
        }

        int witnessSeen(int m, int k) {
            if (kind == LOSING) {
                return Integer.bitCount(m ^ k) <= t ? m & k : NONE;
            }
            int least = leastSeen(m, k);
            if (kind == EITHER_END) {
                int otherM = reversed(m);
                int otherK = reversed(k);
                least = lesser(least, leastSeen(otherM, k));
                least = lesser(least, leastSeen(m, otherK));
                least = lesser(least, leastSeen(otherM, otherK));
            }
            return least;
        }

        private static int lesser(int s, int other) {
            if (s == NONE || other == NONE) {
                return Math.max(s, other);
            }
            return Math.min(s, other);
        }

        /** From the highest place down a pin is set only where the lower places could not make up for its lack. */
        private int leastSeen(int m, int k) {
            if (!near(m, k)) {
                return NONE;
            }
            int s = 0;
            int decided = 0;
            for (int p = n - 1; p >= 0; p--) {
                decided |= 1 << p;
                if (!canEnd(m, k, s, decided)) {
                    s |= 1 << p;
                }
            }
            return s;
        }

        private boolean canEnd(int m, int k, int s, int decided) {
            int unseenM = t - Integer.bitCount(m & decided & ~s);
            int unseenK = t - Integer.bitCount(k & decided & ~s);
            int addedM = extra() - Integer.bitCount(s & ~m);
            int addedK = extra() - Integer.bitCount(s & ~k);
            return unseenM >= 0 && unseenK >= 0 && addedM >= 0 && addedK >= 0
                    && Integer.bitCount(m & ~k & ~decided) <= unseenM + addedK
                    && Integer.bitCount(k & ~m & ~decided) <= unseenK + addedM;
        }

        int sightsOf(int m) {
            int back = reversed(m);
            return sights(Integer.bitCount(m & back), Integer.bitCount(m & ~back));
        }

        /** Sights of a mark that has so many pins in common with itself turned, and so many alone. */
        private int sights(int common, int alone) {
            if (kind == LOSING) {
                return upTo(n, t);
            }
            int pins = common + alone;
            int oneWay = upTo(pins, t) * upTo(n - pins, extra());
            return kind == EITHER_END ? 2 * oneWay - sightsBothWays(common, alone) : oneWay;
        }

        private int sightsBothWays(int common, int alone) {
            int empty = n - common - 2 * alone;
            int sum = 0;
            for (int unseen = 0; unseen <= t; unseen++) {
                for (int added = 0; added <= a; added++) {
                    int oneEnd = 0;
                    for (int seen = Math.max(0, alone - (t - unseen)); seen <= a - added; seen++) {
                        oneEnd += choose(alone, seen);
                    }
                    sum += choose(common, unseen) * choose(empty, added) * oneEnd * oneEnd;
                }
            }
            return sum;
        }

        /** Sights hang on how many pairs of facing places have one pin, how many two, and on the middle alone. */
        int leastSights() {
            int pairs = n / 2;
            int least = sights(0, 0);
            for (int single = 0; single <= pairs; single++) {
                for (int twice = 0; twice <= pairs - single; twice++) {
                    for (int middle = 0; middle <= n % 2; middle++) {
                        least = Math.min(least, sights(2 * twice + middle, single));
                    }
                }
            }
            return least;
        }

        int allSights() {
            if (kind != LOSING) {
                return 1 << n;
            }
            int sum = 0;
            for (int lost = 0; lost <= t && lost <= n; lost++) {
                sum += choose(n, lost) << (n - lost);
            }
            return sum;
        }

        private static int upTo(int of, int many) {
            int sum = 0;
            for (int k = 0; k <= many; k++) {
                sum += choose(of, k);
            }
            return sum;
        }

        private static int choose(int of, int many) {
            if (many < 0 || many > of) {
                return 0;
            }
            int ways = 1;
            for (int k = 0; k < many; k++) {
                ways = ways * (of - k) / (k + 1);
            }
            return ways;
        }
    }

    /** Marks in order, no two the same, and a bit for each set that is one of them. */
    private static final class MarkList {
        static final int WORD = 64;

        final int[] marks = new int[ROOM];
        private final long[] members = new long[SETS / WORD];
        int size = 0;

        boolean holds(int m) {
            return m >= 0 && m < SETS && ((members[m / WORD] >>> (m % WORD)) & 1L) != 0L;
        }

        /** Whether there was room for a mark that the list does not hold. */
        boolean append(int m) {
            if (size >= ROOM || m < 0 || m >= SETS) {
                return false;
            }
            marks[size] = m;
            size++;
            members[m / WORD] |= 1L << (m % WORD);
            return true;
        }

        boolean appendOnce(int m) {
            return holds(m) || append(m);
        }

        void remove(int i) {
            if (i < 0 || i >= size) {
                return;
            }
            int m = marks[i];
            members[m / WORD] &= ~(1L << (m % WORD));
            size--;
            System.arraycopy(marks, i + 1, marks, i, size - i);
        }

        void wipe() {
            size = 0;
            Arrays.fill(members, 0L);
        }

        void copy(MarkList other) {
            size = other.size;
            System.arraycopy(other.marks, 0, marks, 0, size);
            System.arraycopy(other.members, 0, members, 0, members.length);
        }
    }

    /** How surely each place has a pin, and how a list's marks stand by it. */
    private static final class Reading {
        static final int SURE = 9;

        final int[] numbers = new int[MOST_PLACES];
        private final long[] chances = new long[ROOM];
        private int weighed = 0;

        Reading() {
            Arrays.fill(numbers, NONE);
        }

        void forget() {
            Arrays.fill(numbers, NONE);
        }

        int lookedAt() {
            int looked = 0;
            for (int p = 0; p < numbers.length; p++) {
                if (numbers[p] != NONE) {
                    looked++;
                }
            }
            return looked;
        }

        long chanceOf(int m) {
            long chance = 1L;
            for (int p = 0; p < numbers.length; p++) {
                if (numbers[p] != NONE) {
                    chance *= ((m >> p) & 1) != 0 ? numbers[p] : SURE - numbers[p];
                }
            }
            return chance;
        }

        void weigh(MarkList those) {
            weighed = those.size;
            for (int i = 0; i < weighed; i++) {
                chances[i] = chanceOf(those.marks[i]);
            }
        }

        int possible() {
            int many = 0;
            for (int i = 0; i < weighed; i++) {
                if (chances[i] > 0L) {
                    many++;
                }
            }
            return many;
        }

        int ranked(int rank) {
            for (int i = 0; i < weighed; i++) {
                if (chances[i] > 0L && ahead(i) == rank) {
                    return i;
                }
            }
            return NONE;
        }

        private int ahead(int i) {
            int many = 0;
            for (int j = 0; j < weighed; j++) {
                if (chances[j] > chances[i] || (chances[j] == chances[i] && j < i)) {
                    many++;
                }
            }
            return many;
        }
    }

    /** The text that is fed, and its tokens one after the other. */
    private static final class Text {
        static final int ROOM_FOR_BYTES = 120, BYTES_OF_LONG = 8, BITS_OF_BYTE = 8, BYTE = 255, BLANK = 32;
        static final int END = 0, WORD = 1, NUMBER = 2, SIGN = 3;
        static final int NUMBER_FIGURES = 2;

        private final int[] bytes = new int[ROOM_FOR_BYTES];
        int length = 0;
        int token = END;
        int start = 0;
        private int next = 0;

        boolean take(int n, long packed) {
            if (n < 0 || length + n > ROOM_FOR_BYTES) {
                return false;
            }
            for (int k = n - 1; k >= 0; k--) {
                bytes[length] = (int) (packed >>> (BITS_OF_BYTE * k)) & BYTE;
                length++;
            }
            return true;
        }

        void rewind() {
            next = 0;
            advance();
        }

        void advance() {
            while (next < length && bytes[next] == BLANK) {
                next++;
            }
            start = next;
            if (next >= length) {
                token = END;
                return;
            }
            token = kindOf(bytes[next]);
            next++;
            while (token != SIGN && next < length && kindOf(bytes[next]) == token) {
                next++;
            }
        }

        private static int kindOf(int b) {
            if (b >= 'a' && b <= 'z') {
                return WORD;
            }
            return b >= '0' && b <= '9' ? NUMBER : SIGN;
        }

        boolean isSign(char sign) {
            return token == SIGN && start < length && bytes[start] == sign;
        }

        boolean isWord(String word) {
            if (token != WORD || next - start != word.length()) {
                return false;
            }
            for (int k = 0; k < word.length(); k++) {
                if (bytes[start + k] != word.charAt(k)) {
                    return false;
                }
            }
            return true;
        }

        /** The number that stands here; NONE if its figures are too many. */
        int number() {
            if (token != NUMBER || next - start > NUMBER_FIGURES) {
                return NONE;
            }
            int v = 0;
            for (int k = start; k < next; k++) {
                v = 10 * v + bytes[k] - '0';
            }
            return v;
        }
    }

    /** A rule as steps, tests ahead of what joins them, and the fault of the latest text. */
    private static final class Rule {
        static final int MISPLACED = 1, BAD_NUMBER = 2, TOO_DEEP = 3;
        static final int MOST_OPEN = 4, MOST_LEFT = 98, MOST_DIVISOR = 99;
        static final int PINS = 1, SUM = 2, HAS = 3, RUNS = 4, TURNS = 5, IN = 6, INVERT = 7, BOTH = 8, EITHER = 9;

        private final int[] steps = new int[Text.ROOM_FOR_BYTES];
        private final int[] numbers = new int[Text.ROOM_FOR_BYTES];
        private final int[] divisors = new int[Text.ROOM_FOR_BYTES];
        private int length = 0;
        int faultKind = 0;
        int faultAt = NONE;

        // What each open bracket still has to put behind its next test or at its end; the bare text is 0.
        private final boolean[] inverts = new boolean[MOST_OPEN + 1];
        private final boolean[] joinsBoth = new boolean[MOST_OPEN + 1];
        private final boolean[] joinsEither = new boolean[MOST_OPEN + 1];
        private int open = 0;
        private boolean awaitsTest = true;

        void parse(Text text) {
            length = 0;
            faultKind = 0;
            faultAt = NONE;
            awaitsTest = true;
            begin(0);
            text.rewind();
            for (int k = 0; k < Text.ROOM_FOR_BYTES && text.token != Text.END && faultKind == 0; k++) {
                if (awaitsTest) {
                    takeTest(text);
                } else {
                    takeJoint(text);
                }
            }
            if (awaitsTest || open > 0) {
                blame(MISPLACED, text);
            }
            end();
        }

        /** Only the first fault counts: behind it the text is not gone on with. */
        private void blame(int kind, Text text) {
            if (faultKind == 0) {
                faultKind = kind;
                faultAt = text.start;
            }
        }

        private void begin(int level) {
            open = level;
            inverts[level] = false;
            joinsBoth[level] = false;
            joinsEither[level] = false;
        }

        private void end() {
            if (joinsEither[open]) {
                put(EITHER, 0, 0);
            }
        }

        private void takeTest(Text text) {
            if (text.isWord("not")) {
                text.advance();
                inverts[open] = !inverts[open];
            } else if (text.isSign('(')) {
                takeOpening(text);
            } else {
                takeWord(text);
                endTest();
            }
        }

        private void takeOpening(Text text) {
            if (open >= MOST_OPEN) {
                blame(TOO_DEEP, text);
                return;
            }
            text.advance();
            begin(open + 1);
        }

        private void takeWord(Text text) {
            if (text.isWord("sum")) {
                takeSum(text);
            } else if (text.isWord("pins")) {
                takeNumbered(text, PINS, MOST_PLACES);
            } else if (text.isWord("has")) {
                takeNumbered(text, HAS, MOST_PLACES - 1);
            } else if (text.isWord("runs")) {
                takeNumbered(text, RUNS, MOST_PLACES);
            } else if (text.isWord("in")) {
                takeNumbered(text, IN, LISTS - 1);
            } else if (text.isWord("turns")) {
                text.advance();
                put(TURNS, 0, 0);
            } else {
                blame(MISPLACED, text);
            }
        }

        private void endTest() {
            if (inverts[open]) {
                put(INVERT, 0, 0);
                inverts[open] = false;
            }
            if (joinsBoth[open]) {
                put(BOTH, 0, 0);
                joinsBoth[open] = false;
            }
            awaitsTest = false;
        }

        private void takeJoint(Text text) {
            if (text.isWord("and")) {
                text.advance();
                joinsBoth[open] = true;
                awaitsTest = true;
            } else if (text.isWord("or")) {
                text.advance();
                end();
                joinsEither[open] = true;
                awaitsTest = true;
            } else if (open > 0 && text.isSign(')')) {
                text.advance();
                end();
                open--;
                endTest();
            } else {
                blame(MISPLACED, text);
            }
        }

        private void takeNumbered(Text text, int step, int greatest) {
            text.advance();
            put(step, takeNumber(text, 0, greatest), 0);
        }

        private void takeSum(Text text) {
            text.advance();
            int left = takeNumber(text, 0, MOST_LEFT);
            if (!text.isWord("of")) {
                blame(MISPLACED, text);
                return;
            }
            text.advance();
            put(SUM, left, takeNumber(text, 1, MOST_DIVISOR));
        }

        private int takeNumber(Text text, int least, int greatest) {
            if (text.token != Text.NUMBER) {
                blame(MISPLACED, text);
                return least;
            }
            int v = text.number();
            if (v < least || v > greatest) {
                blame(BAD_NUMBER, text);
                return least;
            }
            text.advance();
            return v;
        }

        private void put(int step, int number, int divisor) {
            if (length < steps.length) {
                steps[length] = step;
                numbers[length] = number;
                divisors[length] = divisor;
                length++;
            }
        }

        /** The answers that still wait are bits, the latest lowest. */
        boolean suits(int m, Island isle, MarkList[] lists) {
            long waiting = 0L;
            for (int i = 0; i < length; i++) {
                if (steps[i] == INVERT) {
                    waiting ^= 1L;
                } else if (steps[i] == BOTH) {
                    waiting = (waiting >> 1) & (waiting | ~1L);
                } else if (steps[i] == EITHER) {
                    waiting = (waiting >> 1) | (waiting & 1L);
                } else {
                    waiting = (waiting << 1) | (passes(i, m, isle, lists) ? 1L : 0L);
                }
            }
            return (waiting & 1L) != 0L;
        }

        private boolean passes(int i, int m, Island isle, MarkList[] lists) {
            int v = numbers[i];
            switch (steps[i]) {
                case PINS:
                    return Integer.bitCount(m) == v;
                case SUM:
                    return divisors[i] > 0 && sumOf(m) % divisors[i] == v;
                case HAS:
                    return ((m >> v) & 1) != 0;
                case RUNS:
                    return Integer.bitCount(m & ~(m << 1)) == v;
                case TURNS:
                    return isle.reversed(m) == m;
                default:
                    return v >= 0 && v < lists.length && lists[v].holds(m);
            }
        }

        private static int sumOf(int m) {
            int sum = 0;
            for (int p = 0; p < MOST_PLACES; p++) {
                sum += ((m >> p) & 1) * (p + 1);
            }
            return sum;
        }
    }

    /** The greatest good list of a small island; a set of marks is the bits of a long here. */
    private static final class Largest {
        static final int MOST_PINS = 5;
        static final int MARKS = 1 << MOST_PINS;

        final int[] row = new int[MARKS];
        private final long[] apart = new long[MARKS];
        private final int[] best = new int[MARKS + 1];
        int size = 0;
        private int soughtPins = NONE;
        private boolean sought = false;

        void forget() {
            sought = false;
        }

        void seek(Island isle, int w) {
            if (sought && soughtPins == w) {
                return;
            }
            sought = true;
            soughtPins = w;
            int many = Math.min(MARKS, isle.all() + 1);
            long those = marksWith(many, w);
            best[many] = 0;
            for (int m = many - 1; m >= 0; m--) {
                best[m] = best[m + 1];
                apart[m] = apartAbove(isle, m, those, many);
                if (((those >>> m) & 1L) != 0L && canPick(apart[m], best[m + 1], m + 1, 0)) {
                    best[m]++;
                }
            }
            size = best[0];
            canPick(those, size, 0, 0);
        }

        private static long marksWith(int many, int w) {
            long those = 0L;
            for (int m = 0; m < many; m++) {
                if (w == NONE || Integer.bitCount(m) == w) {
                    those |= 1L << m;
                }
            }
            return those;
        }

        private static long apartAbove(Island isle, int m, long those, int many) {
            int back = isle.reversed(m);
            long apart = 0L;
            for (int k = m + 1; k < many; k++) {
                if (((those >>> k) & 1L) != 0L && !isle.alike(m, back, k)) {
                    apart |= 1L << k;
                }
            }
            return apart;
        }

        /** Marks are tried rising, so the first row that is found is the first of all; best[m] is the most from m on. */
        private boolean canPick(long open, int need, int from, int depth) {
            if (need <= 0) {
                return true;
            }
            if (depth >= MARKS) {
                return false;
            }
            for (int m = from; m < MARKS && best[m] >= need; m++) {
                if (((open >>> m) & 1L) != 0L) {
                    row[depth] = m;
                    if (canPick(open & apart[m], need - 1, m + 1, depth + 1)) {
                        return true;
                    }
                    if (canStandForAny(m, open)) {
                        return false;
                    }
                }
            }
            return false;
        }

        /** A mark alike to one later mark at most could take that one's place in any row: if m fails, so do all. */
        private boolean canStandForAny(int m, long open) {
            return Long.bitCount((open & ~apart[m]) >>> (m + 1)) <= 1;
        }
    }

    /** Sets of one to three numbered parts that together are just a target; no part goes beyond it. */
    private static final class Covers {
        private final int[] parts = new int[ROOM];
        private final int[] numbers = new int[ROOM];
        private final int[] first = new int[MOST_RING];
        private int size = 0;
        private int target = 0;
        int found = 0;
        int fewest = NONE;
        long common = 0L;

        void start(int whole) {
            target = whole;
            size = 0;
        }

        void offer(int number, int part) {
            if (size < ROOM) {
                parts[size] = part;
                numbers[size] = number;
                size++;
            }
        }

        void search(int h) {
            found = 0;
            fewest = NONE;
            common = ~0L;
            for (int i = 0; i < size; i++) {
                if (parts[i] == target) {
                    tally(1, i, i, i);
                }
            }
            if (h >= 2) {
                searchPairs();
            }
            if (h >= MOST_RING) {
                searchTriples();
            }
        }

        private void searchPairs() {
            for (int i = 0; i < size; i++) {
                for (int j = i + 1; j < size; j++) {
                    if ((parts[i] | parts[j]) == target) {
                        tally(2, i, j, j);
                    }
                }
            }
        }

        private void searchTriples() {
            for (int i = 0; i < size; i++) {
                for (int j = i + 1; j < size; j++) {
                    int two = parts[i] | parts[j];
                    for (int k = j + 1; k < size; k++) {
                        if ((two | parts[k]) == target) {
                            tally(MOST_RING, i, j, k);
                        }
                    }
                }
            }
        }

        /** Smaller sets are searched first, and rows rising: so the first that is told is the fewest. */
        private void tally(int many, int i, int j, int k) {
            found++;
            common &= (1L << numbers[i]) | (1L << numbers[j]) | (1L << numbers[k]);
            if (fewest == NONE) {
                fewest = many;
                first[0] = numbers[i];
                first[1] = numbers[j];
                first[2] = numbers[k];
            }
        }

        int firstAt(int i) {
            return i >= 0 && i < fewest && i < MOST_RING ? first[i] : NONE;
        }

        int commonAt(int i) {
            int seen = 0;
            for (int number = 0; number < ROOM; number++) {
                if (((common >>> number) & 1L) != 0L) {
                    if (seen == i) {
                        return number;
                    }
                    seen++;
                }
            }
            return NONE;
        }

        /** Whether there is one at all; it ends at the first. */
        boolean canCover(int h) {
            return canReach(0, 0, h);
        }

        private boolean canReach(int from, int have, int left) {
            for (int i = from; i < size && left > 0; i++) {
                int now = have | parts[i];
                if (now == target || canReach(i + 1, now, left - 1)) {
                    return true;
                }
            }
            return false;
        }
    }
}
