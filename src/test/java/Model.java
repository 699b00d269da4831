import java.util.ArrayList;
import java.util.Arrays;
import java.util.BitSet;
import java.util.HashMap;
import java.util.HashSet;
import java.util.List;
import java.util.Map;
import java.util.Set;

/** The document said again by definition, slowly and without the program's short cuts: what answers are held against. */
final class Model {
    static final int NONE = -1, UNKNOWN = -1001, OUTSIDE = -1002, NOT = -1003, FULL = -1004, LARGE = -1005;

    int n = 7, kind = 0, t = 1, a = 0;
    final List<List<Integer>> lists = new ArrayList<>();
    final int[] reading = new int[12];
    final StringBuilder text = new StringBuilder();
    int faultAt = NONE;

    Model() {
        for (int i = 0; i < 6; i++) {
            lists.add(new ArrayList<>());
        }
        Arrays.fill(reading, NONE);
    }

    private boolean list(int i) {
        return 0 <= i && i < 6;
    }

    private boolean markOf(int list, int i) {
        return list(list) && 0 <= i && i < lists.get(list).size();
    }

    private boolean set(int m) {
        return 0 <= m && m < 1 << n;
    }

    private boolean seen(int s, int l) {
        return set(s) && set(l) && (s & l) == 0;
    }

    private static boolean pin(int m, int place) {
        return (m >> place & 1) == 1;
    }

    private static int pins(int m) {
        return Integer.bitCount(m);
    }

    // ---- the island

    int places(int k) {
        if (k < 2 || k > 12) return OUTSIDE;
        n = k;
        for (List<Integer> l : lists) l.clear();
        Arrays.fill(reading, NONE);
        return n;
    }

    int island(int k, int tt, int aa) {
        if (k < 0 || k > 3 || tt < 0 || tt > 4 || aa < 0 || aa > 4) return OUTSIDE;
        kind = k;
        t = tt;
        a = aa;
        return 1;
    }

    int is(int what) {
        return what == 0 ? n : what == 1 ? kind : what == 2 ? t : what == 3 ? a : OUTSIDE;
    }

    int back(int m) {
        int r = 0;
        for (int k = 0; k < n; k++) {
            if (pin(m, k)) r |= 1 << n - 1 - k;
        }
        return r;
    }

    int turned(int m) {
        return set(m) ? back(m) : OUTSIDE;
    }

    boolean sees(int m, int s, int l) {
        switch (kind) {
            case 0: return pins(l) <= t && (m & ~l) == s;
            case 1: return l == 0 && (s & m) == s && pins(m & ~s) <= t;
            case 2: return l == 0 && pins(m & ~s) <= t && pins(s & ~m) <= a;
            default:
                int r = back(m);
                return l == 0 && (pins(m & ~s) <= t && pins(s & ~m) <= a || pins(r & ~s) <= t && pins(s & ~r) <= a);
        }
    }

    int may(int m, int s, int l) {
        return !set(m) || !seen(s, l) ? OUTSIDE : sees(m, s, l) ? 1 : 0;
    }

    /** {l, s} or null, going through all in order. */
    int[] witness(int m, int k) {
        int lostAtMost = kind == 0 ? (1 << n) - 1 : 0;
        for (int l = 0; l <= lostAtMost; l++) {
            if (kind == 0 && pins(l) > t) continue;
            for (int s = 0; s < 1 << n; s++) {
                if ((s & l) == 0 && sees(m, s, l) && sees(k, s, l)) return new int[] {l, s};
            }
        }
        return null;
    }

    int between(int m, int k, int what) {
        if (!set(m) || !set(k) || what < 0 || what > 1) return OUTSIDE;
        int[] w = witness(m, k);
        return w == null ? NONE : w[1 - what];
    }

    Set<Integer> sights(int m) {
        Set<Integer> all = new HashSet<>();
        for (int l = 0; l < (kind == 0 ? 1 << n : 1); l++) {
            if (kind == 0) {
                if (pins(l) <= t) all.add(l << 12 | m & ~l);
                continue;
            }
            for (int s = 0; s < 1 << n; s++) {
                if (sees(m, s, l)) all.add(l << 12 | s);
            }
        }
        return all;
    }

    int fills(int m) {
        return set(m) ? sights(m).size() : OUTSIDE;
    }

    int bound() {
        Set<Integer> all = new HashSet<>();
        int least = Integer.MAX_VALUE;
        for (int m = 0; m < 1 << n; m++) {
            Set<Integer> some = sights(m);
            least = Math.min(least, some.size());
            all.addAll(some);
        }
        return all.size() / least;
    }

    // ---- lists

    int add(int list, int m) {
        if (!list(list)) return UNKNOWN;
        if (!set(m)) return OUTSIDE;
        List<Integer> l = lists.get(list);
        if (l.contains(m)) return NOT;
        if (l.size() == 64) return FULL;
        l.add(m);
        return l.size();
    }

    int drop(int list, int i) {
        if (!markOf(list, i)) return UNKNOWN;
        lists.get(list).remove(i);
        return lists.get(list).size();
    }

    int clear(int list) {
        if (!list(list)) return UNKNOWN;
        int had = lists.get(list).size();
        lists.get(list).clear();
        return had;
    }

    int mark(int list, int i) {
        if (!list(list)) return UNKNOWN;
        if (i == NONE) return lists.get(list).size();
        return markOf(list, i) ? lists.get(list).get(i) : UNKNOWN;
    }

    int good(int list, int what) {
        if (!list(list)) return UNKNOWN;
        if (what < 0 || what > 4) return OUTSIDE;
        List<Integer> l = lists.get(list);
        for (int i = 0; i < l.size(); i++) {
            for (int j = i + 1; j < l.size(); j++) {
                int[] w = witness(l.get(i), l.get(j));
                if (w != null) return new int[] {0, i, j, w[1], w[0]}[what];
            }
        }
        return what == 0 ? 1 : NONE;
    }

    int build(int list, int seed, int many) {
        if (!list(list)) return UNKNOWN;
        if (seed < 0 || seed > 4095 || many < 0 || many > 64) return OUTSIDE;
        List<Integer> l = lists.get(list);
        for (long k = 0; k < 1 << n && l.size() < many; k++) {
            int m = (int) ((k * (2L * seed + 1) + seed) % (1 << n));
            boolean apart = true;
            for (int other : l) apart &= witness(m, other) == null;
            if (apart) l.add(m);
        }
        return l.size();
    }

    int most(int w, int i) {
        if (w < NONE || w > 5) return OUTSIDE;
        if (n > 5) return LARGE;
        List<Integer> row = mostRow(w);
        if (i == NONE) return row.size();
        return 0 <= i && i < row.size() ? row.get(i) : NONE;
    }

    private List<Integer> mostRow(int w) {
        long[] alike = new long[32];
        long open = 0;
        for (int m = 0; m < 1 << n; m++) {
            if (w == NONE || pins(m) == w) open |= 1L << m;
            for (int k = 0; k < 1 << n; k++) {
                if (witness(m, k) != null) alike[m] |= 1L << k;
            }
        }
        Map<Long, Integer> known = new HashMap<>();
        List<Integer> row = new ArrayList<>();
        for (int m = 0; m < 1 << n; m++) {
            if ((open >> m & 1) == 0) continue;
            long with = open & ~alike[m];
            if (1 + greatest(with, alike, known) == greatest(open, alike, known)) {
                row.add(m);
                open = with;
            } else {
                open &= ~(1L << m);
            }
        }
        return row;
    }

    private static int greatest(long open, long[] alike, Map<Long, Integer> known) {
        if (open == 0) return 0;
        Integer before = known.get(open);
        if (before != null) return before;
        int busiest = -1;
        int most = -1;
        for (int m = 0; m < 32; m++) {
            if ((open >> m & 1) == 1 && Long.bitCount(open & alike[m]) > most) {
                most = Long.bitCount(open & alike[m]);
                busiest = m;
            }
        }
        int answer = most == 1 ? Long.bitCount(open)
                : Math.max(1 + greatest(open & ~alike[busiest], alike, known), greatest(open & ~(1L << busiest), alike, known));
        known.put(open, answer);
        return answer;
    }

    // ---- lists of lists

    private int becomes(int to, List<Integer> row) {
        List<Integer> once = new ArrayList<>();
        for (int m : row) {
            if (!once.contains(m)) once.add(m);
        }
        if (once.size() > 64) return FULL;
        lists.set(to, once);
        return once.size();
    }

    int lay(int to, int x, int y, int p) {
        if (!list(to) || !list(x) || !list(y)) return UNKNOWN;
        if (p < 1 || p > n - 1) return OUTSIDE;
        List<Integer> row = new ArrayList<>();
        for (int u : lists.get(x)) {
            for (int v : lists.get(y)) {
                int m = 0;
                for (int k = 0; k < n; k++) {
                    if (k < p ? pin(u, k) : pin(v, k - p)) m |= 1 << k;
                }
                row.add(m);
            }
        }
        return becomes(to, row);
    }

    int join(int to, int x, int y) {
        if (!list(to) || !list(x) || !list(y)) return UNKNOWN;
        List<Integer> row = new ArrayList<>(lists.get(x));
        row.addAll(lists.get(y));
        return becomes(to, row);
    }

    int shorten(int to, int x, int p) {
        if (!list(to) || !list(x)) return UNKNOWN;
        if (p < 0 || p >= n) return OUTSIDE;
        List<Integer> row = new ArrayList<>();
        for (int u : lists.get(x)) {
            int m = 0;
            for (int k = 0; k < n; k++) {
                if (k != p && pin(u, k)) m |= 1 << (k < p ? k : k - 1);
            }
            row.add(m);
        }
        return becomes(to, row);
    }

    int turn(int to, int x) {
        if (!list(to) || !list(x)) return UNKNOWN;
        List<Integer> row = new ArrayList<>();
        for (int u : lists.get(x)) row.add(back(u));
        return becomes(to, row);
    }

    int even(int to, int x, int p) {
        if (!list(to) || !list(x)) return UNKNOWN;
        if (p < 0 || p >= n) return OUTSIDE;
        List<Integer> row = new ArrayList<>();
        for (int u : lists.get(x)) {
            int others = 0;
            int m = 0;
            for (int k = 0; k < n; k++) {
                if (k != p && pin(u, k)) {
                    others++;
                    m |= 1 << k;
                }
            }
            row.add(others % 2 == 1 ? m | 1 << p : m);
        }
        return becomes(to, row);
    }

    // ---- rules

    int feed(int k, long bytes) {
        if (k < 1 || k > 8) return OUTSIDE;
        if (text.length() + k > 120) return FULL;
        for (int i = 8 - k; i < 8; i++) {
            text.append((char) (bytes >> 8 * (7 - i) & 255));
        }
        return text.length();
    }

    int read(int to) {
        if (!list(to)) return UNKNOWN;
        String s = text.toString();
        text.setLength(0);
        ModelRule rule = new ModelRule(s, this);
        BitSet those = rule.marks();
        faultAt = rule.faultAt;
        if (those == null) return -10 - rule.fault;
        if (those.cardinality() > 64) return LARGE;
        List<Integer> row = new ArrayList<>();
        for (int m = 0; m < 1 << n; m++) {
            if (those.get(m)) row.add(m);
        }
        return becomes(to, row);
    }

    int fault() {
        return faultAt;
    }

    int count(int what) {
        if (what < 0 || what > 2) return OUTSIDE;
        if (what == 1) return text.length();
        int sum = 0;
        if (what == 0) {
            for (List<Integer> l : lists) sum += l.size();
        } else {
            for (int v : reading) sum += v == NONE ? 0 : 1;
        }
        return sum;
    }

    // ---- owners, readings

    private static int ith(List<Integer> row, int i) {
        if (i == NONE) return row.size();
        return 0 <= i && i < row.size() ? row.get(i) : NONE;
    }

    int owner(int list, int s, int l, int i) {
        if (!list(list)) return UNKNOWN;
        if (!seen(s, l)) return OUTSIDE;
        List<Integer> row = new ArrayList<>();
        for (int k = 0; k < lists.get(list).size(); k++) {
            if (sees(lists.get(list).get(k), s, l)) row.add(k);
        }
        return ith(row, i);
    }

    int look(int place, int v) {
        if (place < 0 || place >= n || v < NONE || v > 9) return OUTSIDE;
        int was = reading[place];
        reading[place] = v;
        return was;
    }

    long chance(int list, int i) {
        if (!markOf(list, i)) return UNKNOWN;
        long product = 1;
        for (int k = 0; k < n; k++) {
            if (reading[k] != NONE) product *= pin(lists.get(list).get(i), k) ? reading[k] : 9 - reading[k];
        }
        return product;
    }

    int likely(int list, int i) {
        if (!list(list)) return UNKNOWN;
        List<Integer> row = new ArrayList<>();
        for (int k = 0; k < lists.get(list).size(); k++) {
            if (chance(list, k) != 0) row.add(k);
        }
        row.sort((x, y) -> {
            int byChance = Long.compare(chance(list, y), chance(list, x));
            return byChance != 0 ? byChance : Integer.compare(x, y);
        });
        return ith(row, i);
    }

    // ---- heaps, rings

    /** All sets of 1 to h numbers below many, by size, then by rows. */
    private static List<int[]> sets(int many, int h) {
        List<int[]> all = new ArrayList<>();
        for (int i = 0; i < many; i++) all.add(new int[] {i});
        for (int from = 0, size = 2; size <= h; size++) {
            int to = all.size();
            for (; from < to; from++) {
                int[] some = all.get(from);
                for (int k = some[size - 2] + 1; k < many; k++) {
                    int[] more = Arrays.copyOf(some, size);
                    more[size - 1] = k;
                    all.add(more);
                }
            }
        }
        return all;
    }

    int heap(int list, int s, int h, int what) {
        if (!list(list)) return UNKNOWN;
        if (!set(s) || h < 1 || h > 3 || what < NONE || what > 3) return OUTSIDE;
        int explained = 0;
        int[] fewest = null;
        for (int[] some : sets(lists.get(list).size(), h)) {
            int union = 0;
            for (int i : some) union |= lists.get(list).get(i);
            if (union != s) continue;
            explained++;
            if (fewest == null) fewest = some;
        }
        if (what == NONE) return explained;
        if (fewest == null) return NONE;
        return what == 0 ? fewest.length : what <= fewest.length ? fewest[what - 1] : NONE;
    }

    private boolean makes(int list, int[] ring, int s) {
        for (int p = 0; p < n; p++) {
            int have = 0;
            for (int i : ring) have += pin(lists.get(list).get(i), p) ? 1 : 0;
            if (have == ring.length && !pin(s, p) || have == 0 && pin(s, p)) return false;
        }
        return true;
    }

    int make(int list, int i, int j, int k, int s) {
        if (!markOf(list, i) || j != NONE && !markOf(list, j) || k != NONE && !markOf(list, k)) return UNKNOWN;
        if (!set(s)) return OUTSIDE;
        int[] ring = j == NONE ? k == NONE ? new int[] {i} : new int[] {i, k} : k == NONE ? new int[] {i, j} : new int[] {i, j, k};
        return makes(list, ring, s) ? 1 : 0;
    }

    private List<int[]> rings(int list, int s, int h) {
        List<int[]> all = new ArrayList<>();
        for (int[] ring : sets(lists.get(list).size(), h)) {
            if (makes(list, ring, s)) all.add(ring);
        }
        return all;
    }

    private List<Integer> inEach(int list, List<int[]> rings) {
        List<Integer> row = new ArrayList<>();
        for (int i = 0; i < lists.get(list).size(); i++) {
            boolean always = true;
            for (int[] ring : rings) {
                boolean here = false;
                for (int k : ring) here |= k == i;
                always &= here;
            }
            if (always) row.add(i);
        }
        return row;
    }

    int trace(int list, int s, int h, int what) {
        if (!list(list)) return UNKNOWN;
        if (!set(s) || h < 1 || h > 3 || what < 0 || what > 2) return OUTSIDE;
        List<int[]> rings = rings(list, s, h);
        if (what == 0) return rings.size();
        if (rings.isEmpty()) return NONE;
        return what == 1 ? rings.get(0).length : inEach(list, rings).size();
    }

    int inAll(int list, int s, int h, int i) {
        if (!list(list)) return UNKNOWN;
        if (!set(s) || h < 1 || h > 3) return OUTSIDE;
        List<int[]> rings = rings(list, s, h);
        if (rings.isEmpty() || i == NONE) return NONE;
        return ith(inEach(list, rings), i);
    }

    int framed(int list, int h) {
        if (!list(list)) return UNKNOWN;
        if (h < 1 || h > 3) return OUTSIDE;
        List<int[]> rings = sets(lists.get(list).size(), h);
        int many = 0;
        for (int i = 0; i < lists.get(list).size(); i++) {
            for (int[] ring : rings) {
                boolean member = false;
                for (int k : ring) member |= k == i;
                if (!member && makes(list, ring, lists.get(list).get(i))) {
                    many++;
                    break;
                }
            }
        }
        return many;
    }
}
