import java.nio.charset.StandardCharsets;
import java.util.Random;

/** Random runs of calls, right and wrong ones, on the program and on the model; and all small islands gone through. */
public final class ModelTest {
    private static final int RUNS = 1500;
    private static final int CALLS = 300;

    private final Checks checks = new Checks();
    private final Random random;
    private final PodMarks x = new PodMarks();
    private final Model y = new Model();
    private final int run;
    private final int places;
    private int call = 0;

    private ModelTest(int run, int places) {
        this.run = run;
        this.places = places;
        this.random = new Random(run);
    }

    public static void main(String[] args) {
        int wrong = 0;
        for (int run = 0; run < RUNS && wrong < 10; run++) {
            // Few runs have many places: the model goes through all sets there.
            int places = run % 25 == 0 ? 12 : run % 5 == 0 ? 9 : 2 + run % 6;
            ModelTest test = new ModelTest(run, places);
            test.play();
            wrong += test.checks.wrong();
        }
        Checks islands = new Checks();
        for (int n = 2; n <= 8; n++) {
            goThroughIslands(islands, n);
        }
        largeIslands(islands);
        mostOfAll(islands);
        System.out.println(RUNS + " runs against the model, " + wrong + " answers not as due");
        if (wrong != 0) {
            System.exit(1);
        }
        islands.end();
    }

    // ---- all islands

    private static void goThroughIslands(Checks checks, int n) {
        for (int kind = 0; kind <= 3; kind++) {
            for (int t = 0; t <= 4; t++) {
                for (int a = 0; a <= 4; a++) {
                    PodMarks x = new PodMarks();
                    Model y = new Model();
                    x.places(n);
                    y.places(n);
                    x.island(kind, t, a);
                    y.island(kind, t, a);
                    String where = "n " + n + ", island(" + kind + ", " + t + ", " + a + "): ";
                    checks.due(where + "bound()", x.bound(), y.bound());
                    for (int m = 0; m < 1 << n; m++) {
                        checks.due(where + "fills(" + m + ")", x.fills(m), y.fills(m));
                        for (int k = 0; n <= 5 && k < 1 << n; k++) {
                            checks.due(where + "between(" + m + ", " + k + ", 0)", x.between(m, k, 0), y.between(m, k, 0));
                            checks.due(where + "between(" + m + ", " + k + ", 1)", x.between(m, k, 1), y.between(m, k, 1));
                        }
                    }
                }
            }
        }
    }

    private static void largeIslands(Checks checks) {
        int[][] some = {{12, 3, 2, 2}, {11, 3, 1, 3}, {12, 0, 4, 0}, {11, 2, 4, 4}, {12, 1, 4, 4}, {10, 3, 4, 1}};
        for (int[] one : some) {
            PodMarks x = new PodMarks();
            Model y = new Model();
            x.places(one[0]);
            y.places(one[0]);
            x.island(one[1], one[2], one[3]);
            y.island(one[1], one[2], one[3]);
            checks.due("bound() of n " + one[0] + ", kind " + one[1], x.bound(), y.bound());
        }
    }

    private static void mostOfAll(Checks checks) {
        for (int n = 2; n <= 5; n++) {
            for (int kind = 0; kind <= 3; kind++) {
                for (int t = 0; t <= 4; t++) {
                    for (int a = 0; a <= 4; a += kind >= 2 ? 1 : 4) {
                        PodMarks x = new PodMarks();
                        Model y = new Model();
                        x.places(n);
                        y.places(n);
                        x.island(kind, t, a);
                        y.island(kind, t, a);
                        checkMost(checks, x, y, "n " + n + ", island(" + kind + ", " + t + ", " + a + "): ");
                    }
                }
            }
        }
    }

    private static void checkMost(Checks checks, PodMarks x, Model y, String where) {
        for (int w = -1; w <= 5; w++) {
            int many = y.most(w, -1);
            checks.due(where + "most(" + w + ", -1)", x.most(w, -1), many);
            for (int i = 0; i <= many; i++) {
                checks.due(where + "most(" + w + ", " + i + ")", x.most(w, i), y.most(w, i));
            }
        }
    }

    // ---- random runs

    private void play() {
        due("places", x.places(places), y.places(places));
        for (call = 0; call < CALLS; call++) {
            one(random.nextInt(40));
        }
        for (int list = 0; list < 6; list++) {
            sameList(list);
        }
    }

    private void sameList(int list) {
        for (int i = -1; i <= y.mark(list, -1); i++) {
            due("mark(" + list + ", " + i + ")", x.mark(list, i), y.mark(list, i));
        }
    }

    private void due(String what, long got, long want) {
        checks.due("run " + run + ", call " + call + ": " + what, got, want);
    }

    /** Now and then a number beyond its bounds. */
    private int pick(int least, int greatest) {
        switch (random.nextInt(40)) {
            case 0: return least - 1;
            case 1: return greatest + 1;
            case 2: return random.nextInt();
            case 3: return random.nextBoolean() ? Integer.MIN_VALUE : Integer.MAX_VALUE;
            default: return least + random.nextInt(greatest - least + 1);
        }
    }

    private int list() {
        return random.nextInt(30) == 0 ? pick(0, 5) : random.nextInt(6);
    }

    private int set() {
        return random.nextInt(30) == 0 ? pick(0, (1 << y.n) - 1) : random.nextInt(1 << y.n);
    }

    private int number(int list) {
        int size = Math.max(0, y.mark(list, -1));
        return random.nextInt(10) == 0 ? pick(-1, size) : random.nextInt(size + 1) - (random.nextInt(6) == 0 ? 1 : 0);
    }

    /** A set that is near some mark of the list, so that owners, heaps and rings are met. */
    private int near(int list) {
        int size = Math.max(0, y.mark(list, -1));
        if (size == 0 || random.nextInt(4) == 0) return set();
        int m = y.mark(list, random.nextInt(size));
        if (random.nextBoolean()) m |= y.mark(list, random.nextInt(size));
        if (random.nextInt(3) == 0) m ^= 1 << random.nextInt(y.n);
        return random.nextInt(3) == 0 ? m & random.nextInt(1 << y.n) : m;
    }

    private void one(int which) {
        int l = list();
        int i = number(l);
        int s = set();
        switch (which) {
            case 0: {
                int n = random.nextInt(20) == 0 ? pick(2, Math.min(9, places + 1)) : places;
                if (random.nextInt(8) != 0) return;
                if (n > 9 && n <= 12) n = places;
                due("places(" + n + ")", x.places(n), y.places(n));
                return;
            }
            case 1: {
                int kind = pick(0, 3), t = pick(0, 4), a = pick(0, 4);
                due("island(" + kind + ", " + t + ", " + a + ")", x.island(kind, t, a), y.island(kind, t, a));
                return;
            }
            case 2: {
                int what = pick(0, 3);
                due("is(" + what + ")", x.is(what), y.is(what));
                return;
            }
            case 3: due("turned(" + s + ")", x.turned(s), y.turned(s)); return;
            case 4: case 5: {
                int m = set(), lost = random.nextBoolean() ? 0 : set() & ~s;
                if (random.nextInt(3) == 0) lost = set();
                due("may(" + m + ", " + s + ", " + lost + ")", x.may(m, s, lost), y.may(m, s, lost));
                return;
            }
            case 6: {
                int k = random.nextBoolean() ? set() : s ^ 1 << random.nextInt(places), what = pick(0, 1);
                due("between(" + s + ", " + k + ", " + what + ")", x.between(s, k, what), y.between(s, k, what));
                return;
            }
            case 7: due("fills(" + s + ")", x.fills(s), y.fills(s)); return;
            case 8: case 9: case 10: due("add(" + l + ", " + s + ")", x.add(l, s), y.add(l, s)); return;
            case 11: due("drop(" + l + ", " + i + ")", x.drop(l, i), y.drop(l, i)); return;
            case 12: if (random.nextInt(4) == 0) due("clear(" + l + ")", x.clear(l), y.clear(l)); return;
            case 13: due("mark(" + l + ", " + i + ")", x.mark(l, i), y.mark(l, i)); return;
            case 14: {
                int what = pick(0, 4);
                due("good(" + l + ", " + what + ")", x.good(l, what), y.good(l, what));
                return;
            }
            case 15: if (places <= 9) build(l); return;
            case 16: {
                int w = pick(-1, 5), k = pick(-1, 6);
                if (random.nextInt(3) == 0) due("most(" + w + ", " + k + ")", x.most(w, k), y.most(w, k));
                return;
            }
            case 17: if (y.n <= 7 && random.nextInt(5) == 0) due("bound()", x.bound(), y.bound()); return;
            case 18: case 19: case 20: case 21: case 22: lists(which, l); return;
            case 23: case 24: case 25: rule(); return;
            case 26: {
                int what = pick(0, 2);
                due("count(" + what + ")", x.count(what), y.count(what));
                return;
            }
            case 27: case 28: owner(l); return;
            case 29: case 30: {
                int p = pick(0, y.n - 1), v = pick(-1, 9);
                due("look(" + p + ", " + v + ")", x.look(p, v), y.look(p, v));
                return;
            }
            case 31: due("chance(" + l + ", " + i + ")", x.chance(l, i), y.chance(l, i)); return;
            case 32: case 33: due("likely(" + l + ", " + i + ")", x.likely(l, i), y.likely(l, i)); return;
            default: rings(which, l, i); return;
        }
    }

    private void build(int l) {
        int seed = pick(0, 4095), many = pick(0, random.nextBoolean() ? 64 : 8);
        due("build(" + l + ", " + seed + ", " + many + ")", x.build(l, seed, many), y.build(l, seed, many));
    }

    private void lists(int which, int to) {
        int a = list(), b = list(), p = pick(0, y.n - 1);
        String args = "(" + to + ", " + a + ", " + b + ", " + p + ")";
        switch (which) {
            case 18: due("lay" + args, x.lay(to, a, b, p), y.lay(to, a, b, p)); break;
            case 19: due("join" + args, x.join(to, a, b), y.join(to, a, b)); break;
            case 20: due("shorten" + args, x.shorten(to, a, p), y.shorten(to, a, p)); break;
            case 21: due("turn" + args, x.turn(to, a), y.turn(to, a)); break;
            default: due("even" + args, x.even(to, a, p), y.even(to, a, p)); break;
        }
        if (to >= 0 && to < 6) sameList(to);
    }

    private void owner(int l) {
        int s = near(l);
        int lost = random.nextBoolean() ? 0 : set();
        if (random.nextInt(4) != 0) s &= ~lost;
        int i = pick(-1, 3);
        due("owner(" + l + ", " + s + ", " + lost + ", " + i + ")", x.owner(l, s, lost, i), y.owner(l, s, lost, i));
    }

    private void rings(int which, int l, int i) {
        int s = near(l), h = pick(1, 3), what = pick(-1, 3);
        if (y.mark(l, -1) > 24 && random.nextInt(6) != 0) return;
        switch (which) {
            case 34: case 35: due("heap(" + l + ", " + s + ", " + h + ", " + what + ")", x.heap(l, s, h, what), y.heap(l, s, h, what)); break;
            case 36: {
                int j = number(l), k = number(l);
                due("make(" + l + ", " + i + ", " + j + ", " + k + ", " + s + ")", x.make(l, i, j, k, s), y.make(l, i, j, k, s));
                break;
            }
            case 37: due("trace(" + l + ", " + s + ", " + h + ", " + what + ")", x.trace(l, s, h, what), y.trace(l, s, h, what)); break;
            case 38: due("inAll(" + l + ", " + s + ", " + h + ", " + what + ")", x.inAll(l, s, h, what), y.inAll(l, s, h, what)); break;
            default: due("framed(" + l + ", " + h + ")", x.framed(l, h), y.framed(l, h)); break;
        }
    }

    // ---- rules

    private void rule() {
        StringBuilder made = new StringBuilder();
        part(made, random.nextInt(5));
        while (random.nextInt(3) == 0) {
            made.append(random.nextBoolean() ? " or " : " and ");
            part(made, random.nextInt(3));
        }
        for (int k = random.nextInt(3) == 0 ? random.nextInt(4) : 0; k > 0; k--) spoil(made);
        feedAll(made.toString());
        if (random.nextInt(12) == 0) return;
        int to = list();
        due("read(" + to + ") of '" + made + "'", x.read(to), y.read(to));
        due("fault() of '" + made + "'", x.fault(), y.fault());
        due("count(1)", x.count(1), y.count(1));
        if (to >= 0 && to < 6) sameList(to);
    }

    private void feedAll(String s) {
        byte[] bytes = s.getBytes(StandardCharsets.ISO_8859_1);
        for (int from = 0; from < bytes.length; ) {
            int n = Math.min(bytes.length - from, 1 + random.nextInt(8));
            long packed = n == 8 ? 0 : random.nextLong() << 8 * n;
            for (int k = 0; k < n; k++) packed |= (bytes[from + k] & 255L) << 8 * (n - 1 - k);
            int asked = random.nextInt(60) == 0 ? pick(1, 8) : n;
            due("feed(" + asked + ", " + packed + ")", x.feed(asked, packed), y.feed(asked, packed));
            from += n;
        }
    }

    private void part(StringBuilder made, int depth) {
        int kind = depth <= 0 ? 4 + random.nextInt(7) : random.nextInt(11);
        String gap = random.nextInt(3) == 0 ? "" : random.nextInt(4) == 0 ? "  " : " ";
        switch (kind) {
            case 0: made.append("not "); part(made, depth); break;
            case 1: made.append("("); part(made, depth - 1); made.append(gap).append(")"); break;
            case 2: part(made, depth - 1); made.append(" and "); part(made, depth - 1); break;
            case 3: part(made, depth - 1); made.append(" or "); part(made, depth - 1); break;
            case 4: made.append("pins").append(gap).append(pickSmall(12)); break;
            case 5: case 6:
                made.append("sum").append(gap).append(pickSmall(random.nextBoolean() ? 5 : 98)).append(gap).append("of").append(gap)
                        .append(pickSmall(random.nextBoolean() ? 9 : 99));
                break;
            case 7: made.append("has").append(gap).append(pickSmall(11)); break;
            case 8: made.append("runs").append(gap).append(pickSmall(4)); break;
            case 9: made.append("turns"); break;
            default: made.append("in").append(gap).append(pickSmall(5)); break;
        }
    }

    private String pickSmall(int greatest) {
        int v = random.nextInt(40) == 0 ? random.nextInt(1200) : random.nextInt(greatest + 1);
        return (random.nextInt(12) == 0 ? "0" : "") + v;
    }

    private void spoil(StringBuilder made) {
        int at = random.nextInt(made.length() + 1);
        String[] bits = {"(", ")", " ", "", "or", "not ", "7", "x", "(((((", " and", "of", "12", "\t", "\u00e9", "\u0000", "N", "turns"};
        switch (random.nextInt(3)) {
            case 0: made.insert(at, bits[random.nextInt(bits.length)]); break;
            case 1: if (at < made.length()) made.deleteCharAt(at); break;
            default: made.setLength(at); break;
        }
    }
}
