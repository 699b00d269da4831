/** Terms 2 and promises 9 to 21: each sentence that names an edge has a test of its own. */
public final class EdgeListTest extends Bench {
    public static void main(String[] args) {
        EdgeListTest test = new EdgeListTest();
        test.adding();
        test.dropping();
        test.good();
        test.building();
        test.most();
        test.bound();
        test.laying();
        test.joining();
        test.shortening();
        test.turning();
        test.even();
        test.checks.end();
    }

    /** All sets of six places. */
    private static PodMarks withFullList(int n) {
        PodMarks x = plain(n);
        addRow(x, 0, 0, 64);
        return x;
    }

    // ---- add, drop, clear, mark

    private void adding() {
        about("Terms 2: LISTS 0 to 5");
        PodMarks x = new PodMarks();
        for (int list = 0; list <= 5; list++) {
            due("list " + list, x.add(list, 9), 1);
        }
        for (int list : NO_LISTS) {
            due("list " + list, x.add(list, 9), UNKNOWN);
        }
        due("one in each", x.count(0), 6);

        about("Terms 2: up to 64 MARKS; promise 9: FULL");
        x = plain(7);
        for (int m = 0; m < 64; m++) {
            due("mark " + m, x.add(3, m), m + 1);
        }
        due("one more", x.add(3, 64), FULL);
        due("64 stay", x.mark(3, NONE), 64);
        due("the last is as it was", x.mark(3, 63), 63);
        due("another list has room", x.add(4, 64), 1);
        x.drop(3, 10);
        due("there is room again", x.add(3, 64), 64);

        about("Terms 2: MARKS of n places; promise 9: OUTSIDE");
        for (int n = 2; n <= 12; n++) {
            x = plain(n);
            due("no pin", x.add(0, 0), 1);
            due("all pins of " + n, x.add(0, (1 << n) - 1), 2);
            for (int m : new int[] {-1, 1 << n, LOW, HIGH}) {
                due("mark " + m + " of " + n, x.add(0, m), OUTSIDE);
            }
            due("two stay", x.mark(0, NONE), 2);
        }

        about("Terms 2: in order");
        x = plain(12);
        addAll(x, 0, 4095, 0, 7, 2048, 1);
        holds("as they came", x, 0, 4095, 0, 7, 2048, 1);

        about("Terms 2: no two the same; promise 9: NOT: it has it");
        x = plain(12);
        addAll(x, 0, 0, 63, 64, 4095);
        for (int m : new int[] {0, 63, 64, 4095}) {
            due("again " + m, x.add(0, m), NOT);
        }
        holds("as it was", x, 0, 0, 63, 64, 4095);
        due("another list", x.add(1, 63), 1);

        about("Promise 9: NOT only while it has it");
        x.drop(0, 1);
        due("dropped", x.add(0, 63), 4);
        x.clear(0);
        due("cleared", x.add(0, 63), 1);
        x.places(12);
        due("places", x.add(0, 63), 1);
        x.turn(0, 0);
        due("turned away", x.add(0, 63), 2);

        about("Promise 9: NOT ahead of FULL");
        x = withFullList(12);
        due("the first", x.add(0, 0), NOT);
        due("the last", x.add(0, 63), NOT);
        due("OUTSIDE is ahead of it", x.add(0, 4096), OUTSIDE);
    }

    private void dropping() {
        about("Promise 10: MARK i goes, those behind it come up");
        PodMarks x = withFullList(12);
        due("the first of 64", x.drop(0, 0), 63);
        due("the second is the first", x.mark(0, 0), 1);
        due("the last came up", x.mark(0, 62), 63);
        due("its place is empty", x.mark(0, 63), UNKNOWN);
        due("the last", x.drop(0, 62), 62);
        due("none came up", x.mark(0, 61), 62);

        about("Promise 10: the only one goes");
        x = plain(7);
        x.add(0, 5);
        due("drop", x.drop(0, 0), 0);
        due("again", x.drop(0, 0), UNKNOWN);

        about("Promise 10: UNKNOWN: a MARK that there is not");
        addAll(x, 0, 5, 6);
        for (int i : new int[] {-1, 2, 63, 64, LOW, HIGH}) {
            due("drop(0, " + i + ")", x.drop(0, i), UNKNOWN);
        }
        holds("as it was", x, 0, 5, 6);
        for (int list : NO_LISTS) {
            due("list " + list, x.drop(list, 0), UNKNOWN);
        }

        about("Promise 11: how many it had");
        x = withFullList(7);
        x.add(1, 9);
        due("64", x.clear(0), 64);
        due("none", x.clear(0), 0);
        due("an empty one", x.clear(5), 0);
        due("the others stay", x.mark(1, 0), 9);
        for (int list : NO_LISTS) {
            due("list " + list, x.clear(list), UNKNOWN);
        }

        about("Promise 12: i = NONE: how many it has");
        x = withFullList(7);
        due("64", x.mark(0, NONE), 64);
        due("none", x.mark(5, NONE), 0);

        about("Promise 12: UNKNOWN");
        due("the last is there", x.mark(0, 63), 63);
        for (int i : new int[] {64, -2, LOW, HIGH}) {
            due("mark " + i, x.mark(0, i), UNKNOWN);
        }
        due("of an empty one", x.mark(5, 0), UNKNOWN);
        for (int list : NO_LISTS) {
            due("list " + list, x.mark(list, NONE), UNKNOWN);
            due("list " + list, x.mark(list, 0), UNKNOWN);
        }
    }

    // ---- good

    private void isGood(PodMarks x, int list) {
        due("GOOD", x.good(list, 0), 1);
        for (int what = 1; what <= 4; what++) {
            due("what " + what, x.good(list, what), NONE);
        }
    }

    private void isBad(PodMarks x, int list, int first, int second, int s, int l) {
        due("GOOD", x.good(list, 0), 0);
        due("the first", x.good(list, 1), first);
        due("the second", x.good(list, 2), second);
        due("s", x.good(list, 3), s);
        due("l", x.good(list, 4), l);
    }

    /** Any two of the 63 differ in two places or more, all of them below place 7. */
    private static PodMarks with63Good() {
        PodMarks x = with(12, LOSING, 1, 0);
        x.build(0, 0, 63);
        return x;
    }

    private void good() {
        about("Terms 2: GOOD is a LIST in which no two are ALIKE: an empty one, one of one MARK");
        PodMarks x = with(12, TURNED, 4, 4);
        isGood(x, 0);
        x.add(0, 4095);
        isGood(x, 0);
        x.add(0, 0);
        isGood(x, 0);

        about("Terms 2: a full LIST may be GOOD");
        x = with63Good();
        x.add(0, 4095);
        isGood(x, 0);

        about("Terms 2: THE FIRST BAD pair: the very last two of a full LIST");
        x = with63Good();
        due("mark 62", x.mark(0, 62), 125);
        x.add(0, 125 | 2048);
        isBad(x, 0, 62, 63, 125, 2048);

        about("Terms 2: THE FIRST BAD pair: the first and the last of a full LIST");
        x = with63Good();
        x.add(0, 2048);
        isBad(x, 0, 0, 63, 0, 2048);

        about("Terms 2: THE FIRST BAD pair: by its first, then its second MARK");
        x = with(7, LOSING, 1, 0);
        addAll(x, 0, 0b1111000, 0b0000111, 0b0000110, 0b0000101, 0b1111001);
        isBad(x, 0, 0, 4, 0b1111000, 1);
        x.drop(0, 4);
        isBad(x, 0, 1, 2, 0b0000110, 1);
        x.drop(0, 2);
        isBad(x, 0, 1, 2, 0b0000101, 2);

        about("Terms 2: GOOD by THE ISLAND as it is");
        x.island(LOSING, 0, 0);
        isGood(x, 0);
        x.island(BLIND, 1, 4);
        isBad(x, 0, 1, 2, 0b0000101, 0);
        x.island(TURNED, 0, 1);
        isBad(x, 0, 0, 1, 0b0001111, 0);

        about("Promise 13: what = 0 .. 4; OUTSIDE");
        for (int what : new int[] {-1, 5, LOW, HIGH}) {
            due("what " + what, x.good(0, what), OUTSIDE);
            due("what " + what + " of an empty one", x.good(5, what), OUTSIDE);
        }

        about("Promise 13: UNKNOWN");
        for (int list : NO_LISTS) {
            due("list " + list, x.good(list, 0), UNKNOWN);
        }
    }

    // ---- build

    private void building() {
        about("BUILT: all SETS of places are gone through, the k-th one left over by 2 to the n");
        for (int seed : new int[] {0, 1, 5, 31, 2047, 4095}) {
            PodMarks x = plain(6);
            due("seed " + seed, x.build(0, seed, 64), 64);
            for (long k = 0; k < 64; k++) {
                due("seed " + seed + ", the " + k + "-th", x.mark(0, (int) k), (k * (2L * seed + 1) + seed) % 64);
            }
        }

        about("BUILT: k from 0, up to the last of 2 to the n");
        PodMarks x = plain(3);
        addRow(x, 0, 0, 7);
        due("the last comes", x.build(0, 0, 64), 8);
        due("it is 7", x.mark(0, 7), 7);
        x = plain(3);
        addRow(x, 0, 1, 7);
        due("the first comes", x.build(0, 0, 64), 8);
        due("it is 0", x.mark(0, 7), 0);
        x = plain(2);
        due("not more than there are", x.build(0, 4095, 64), 4);
        holds("k times 3 and 3", x, 0, 3, 2, 1, 0);

        about("BUILT: the greatest seed of twelve places");
        x = plain(12);
        x.build(0, 4095, 64);
        due("the first", x.mark(0, 0), 4095);
        due("the last", x.mark(0, 63), 4095 - 63);

        about("BUILT: until it has 64");
        x = plain(7);
        due("build", x.build(0, 0, 64), 64);
        due("the last", x.mark(0, 63), 63);
        due("no more", x.build(0, 1, 64), 64);

        about("BUILT: as many as are wanted");
        x = plain(12);
        due("none", x.build(0, 7, 0), 0);
        due("one", x.build(0, 7, 1), 1);
        due("63", x.build(0, 7, 63), 63);
        due("one more", x.build(0, 7, 64), 64);

        about("BUILT: from what the LIST has; each ALIKE to none of the LIST");
        x = with(4, LOSING, 1, 0);
        addAll(x, 0, 0b1111, 0b1110);
        due("build", x.build(0, 0, 64), 6);
        holds("behind what it had", x, 0, 0b1111, 0b1110, 0b0000, 0b0011, 0b0101, 0b1001);

        about("Promise 14: what it had stays, also more than many");
        due("many 2", x.build(0, 0, 2), 6);
        due("many 0", x.build(0, 0, 0), 6);
        holds("as it was", x, 0, 0b1111, 0b1110, 0b0000, 0b0011, 0b0101, 0b1001);

        about("Promise 14: OUTSIDE: seed 0 .. 4095, many 0 .. 64");
        x = plain(4);
        for (int seed : new int[] {-1, 4096, LOW, HIGH}) {
            due("seed " + seed, x.build(0, seed, 4), OUTSIDE);
        }
        for (int many : new int[] {-1, 65, LOW, HIGH}) {
            due("many " + many, x.build(0, 0, many), OUTSIDE);
        }
        due("none came", x.mark(0, NONE), 0);

        about("Promise 14: UNKNOWN");
        for (int list : NO_LISTS) {
            due("list " + list, x.build(list, 0, 4), UNKNOWN);
        }
    }

    // ---- most, bound

    private void isMost(PodMarks x, int w, int... row) {
        due("how many", x.most(w, NONE), row.length);
        for (int i = 0; i < row.length; i++) {
            due("mark " + i, x.most(w, i), row[i]);
        }
        due("no more", x.most(w, row.length), NONE);
    }

    private void most() {
        about("THE MOST: n 5 at most; promise 15: LARGE");
        due("n 5", with(5, LOSING, 4, 0).most(NONE, NONE), 2);
        for (int n = 6; n <= 12; n++) {
            PodMarks x = with(n, LOSING, 4, 0);
            due("n " + n, x.most(NONE, NONE), LARGE);
            due("n " + n + ", w 5", x.most(5, 0), LARGE);
        }

        about("THE MOST: the least n");
        isMost(plain(2), NONE, 0, 1, 2, 3);
        isMost(with(2, LOSING, 1, 0), NONE, 0, 3);
        isMost(with(2, LOSING, 2, 0), NONE, 0);
        isMost(with(2, TURNED, 0, 0), NONE, 0, 1, 3);

        about("THE MOST: all of them, 32");
        PodMarks all = plain(5);
        due("how many", all.most(NONE, NONE), 32);
        due("the last", all.most(NONE, 31), 31);
        due("no more", all.most(NONE, 32), NONE);

        about("THE MOST: of like ones the first");
        isMost(with(3, LOSING, 2, 0), NONE, 0, 7);
        isMost(with(3, BLIND, 1, 0), 1, 1);
        isMost(with(4, TURNED, 0, 0), 1, 1, 2);
        isMost(with(5, ADDING, 1, 0), 2, 3, 12);
        isMost(with(5, BLIND, 4, 0), NONE, 0, 31);
        isMost(with(5, ADDING, 4, 1), NONE, 0);

        about("THE MOST: w NONE .. 5 PINS: none, and all");
        isMost(with(5, LOSING, 0, 0), 0, 0);
        isMost(with(5, LOSING, 0, 0), 5, 31);
        isMost(with(5, LOSING, 0, 0), 4, 15, 23, 27, 29, 30);

        about("Promise 15: NONE: there is none such: no MARK has so many PINS");
        isMost(with(4, LOSING, 0, 0), 5);
        isMost(with(2, LOSING, 0, 0), 3);

        about("Promise 15: NONE: there is none such: an i that is not there");
        for (int i : new int[] {2, 31, 32, -2, LOW, HIGH}) {
            due("i " + i, with(5, LOSING, 4, 0).most(NONE, i), NONE);
        }

        about("Promise 15: OUTSIDE (w)");
        for (int w : new int[] {-2, 6, LOW, HIGH}) {
            due("w " + w, with(5, LOSING, 1, 0).most(w, NONE), OUTSIDE);
            due("ahead of LARGE, w " + w, with(6, LOSING, 1, 0).most(w, NONE), OUTSIDE);
        }

        about("THE MOST is by THE ISLAND and the n as they are");
        PodMarks x = with(3, LOSING, 1, 0);
        isMost(x, NONE, 0, 3, 5, 6);
        x.island(LOSING, 2, 0);
        isMost(x, NONE, 0, 7);
        x.places(2);
        isMost(x, NONE, 0);
        x.island(LOSING, 1, 0);
        isMost(x, 1, 1, 2);
        isMost(x, NONE, 0, 3);
        x.island(9, 9, 9);
        isMost(x, NONE, 0, 3);
        x = plain(5);
        due("32 of five places", x.most(NONE, NONE), 32);
        x.places(2);
        isMost(x, NONE, 0, 1, 2, 3);
        x.places(3);
        isMost(x, 2, 3, 5, 6);
    }

    private void bound() {
        about("BOUND: / cuts towards 0");
        due("9 / 4", with(2, LOSING, 4, 0).bound(), 2);
        due("16 / 5", with(4, ADDING, 1, 2).bound(), 3);
        due("32 / 6", with(5, TURNED, 1, 1).bound(), 5);

        about("BOUND: by the least FILLS, though it is of one MARK alone");
        due("BLIND: that of no pin", with(12, BLIND, 4, 4).bound(), 4096);
        due("ADDING: that of all pins", with(12, ADDING, 0, 4).bound(), 4096);
        due("ADDING: that of no pin", with(12, ADDING, 4, 0).bound(), 4096);
        due("TURNED: those turned the same", with(12, TURNED, 0, 0).bound(), 4096);

        about("BOUND: the least FILLS, where n is odd");
        due("that of all 11 pins", with(11, ADDING, 0, 4).bound(), 2048);
        due("that of all 3 pins, turned the same", with(3, TURNED, 0, 1).bound(), 8);
        due("that of no pin", with(11, TURNED, 4, 0).bound(), 2048);

        about("BOUND: t 0: every MARK fills one");
        for (int n = 2; n <= 12; n++) {
            due("n " + n, plain(n).bound(), 1 << n);
        }

        about("BOUND: all s and l, LOSING; l of at most n places");
        due("n 12, t 4", with(12, LOSING, 4, 0).bound(), (4096 + 12 * 2048 + 66 * 1024 + 220 * 512 + 495 * 256) / 794);
        due("n 3, t 4", with(3, LOSING, 4, 0).bound(), (8 + 3 * 4 + 3 * 2 + 1) / 8);
        due("n 2, t 2", with(2, LOSING, 2, 0).bound(), (4 + 2 * 2 + 1) / 4);

        about("BOUND: one, where each MARK may be SEEN as all");
        due("n 2", with(2, ADDING, 4, 4).bound(), 1);
        due("n 4", with(4, TURNED, 4, 4).bound(), 1);
    }

    // ---- lists of lists

    private void laying() {
        about("Promise 17: p 1 .. n - 1; OUTSIDE");
        for (int n = 2; n <= 12; n++) {
            PodMarks x = plain(n);
            x.add(0, (1 << n) - 1);
            x.add(1, 0);
            due("p 1", x.lay(2, 0, 1, 1), 1);
            due("one place of a", x.mark(2, 0), 1);
            due("p n - 1", x.lay(2, 1, 0, n - 1), 1);
            due("one place of b", x.mark(2, 0), 1 << n - 1);
            for (int p : new int[] {0, n, -1, LOW, HIGH}) {
                due("p " + p + " of " + n, x.lay(2, 0, 1, p), OUTSIDE);
            }
            due("as it was", x.mark(2, 0), 1 << n - 1);
        }

        about("Promise 17: PINS of a from p on are left out");
        PodMarks x = plain(12);
        addAll(x, 0, 0b000000010000, 0b000000100000, 0b100000000000);
        x.add(1, 0);
        due("lay", x.lay(2, 0, 1, 5), 2);
        holds("that at p - 1 stays", x, 2, 0b10000, 0);

        about("Promise 17: PINS of b from n - p on are left out");
        x = plain(12);
        x.add(0, 0);
        addAll(x, 1, 0b000001000000, 0b000010000000, 0b100000000000);
        due("lay", x.lay(2, 0, 1, 5), 2);
        holds("that at n - p - 1 stays", x, 2, 0b100000000000, 0);

        about("Promise 17: by a, then b");
        x = plain(4);
        addAll(x, 0, 2, 1);
        addAll(x, 1, 3, 0);
        x.lay(2, 0, 1, 2);
        holds("rows", x, 2, 0b1110, 0b0010, 0b1101, 0b0001);

        about("Promise 17: like ones once, where they come first");
        addAll(x, 3, 0b0110, 0b0001, 0b1010, 0b0101);
        due("lay", x.lay(4, 3, 1, 2), 4);
        holds("once", x, 4, 0b1110, 0b0010, 0b1101, 0b0001);

        about("Promise 17: an empty LIST laid is empty");
        due("a is empty", x.lay(4, 5, 0, 2), 0);
        due("to is empty", x.mark(4, NONE), 0);
        due("b is empty", x.lay(2, 0, 5, 2), 0);
        due("to is empty", x.mark(2, NONE), 0);

        layingMany();
    }

    private void layingMany() {
        about("Promise 17: FULL (above 64; nothing is changed)");
        PodMarks x = plain(12);
        addRow(x, 0, 0, 13);
        addRow(x, 1, 0, 5);
        addAll(x, 2, 100, 200);
        String before = stateOf(x);
        due("65", x.lay(2, 0, 1, 6), FULL);
        due("65, to is a", x.lay(0, 0, 1, 6), FULL);
        due("65, to is b", x.lay(1, 0, 1, 6), FULL);
        checks.holds("it is as before", stateOf(x).equals(before));

        about("Promise 17: 64 are not too many");
        PodMarks y = plain(12);
        addRow(y, 0, 0, 16);
        addRow(y, 1, 0, 4);
        due("64", y.lay(2, 0, 1, 6), 64);
        due("the last", y.mark(2, 63), 15 | 3 << 6);

        about("Promise 17: above 64 counts like ones once");
        PodMarks z = withFullList(6);
        due("4096 pairs, 64 others", z.lay(1, 0, 0, 3), 64);
        due("the last", z.mark(1, 63), 63);

        about("Promise 17: to may be a, b");
        PodMarks w = plain(4);
        addAll(w, 0, 1, 2);
        addAll(w, 1, 3);
        due("to is a", w.lay(0, 0, 1, 2), 2);
        holds("a", w, 0, 0b1101, 0b1110);
        due("to is b", w.lay(1, 0, 1, 2), 2);
        holds("b", w, 1, 0b1101, 0b1110);
        due("to is both", w.lay(1, 1, 1, 2), 4);
        holds("both", w, 1, 0b0101, 0b1001, 0b0110, 0b1010);
    }

    private void joining() {
        about("Promise 18: those of a, then those of b that it has not yet");
        PodMarks x = plain(12);
        addAll(x, 0, 4095, 7, 0);
        addAll(x, 1, 7, 9, 4095, 8);
        due("join", x.join(2, 0, 1), 5);
        holds("joined", x, 2, 4095, 7, 0, 9, 8);

        about("Promise 18: empty ones");
        due("a is empty", x.join(2, 5, 0), 3);
        holds("b", x, 2, 4095, 7, 0);
        due("b is empty", x.join(3, 1, 5), 4);
        holds("a", x, 3, 7, 9, 4095, 8);
        due("both are", x.join(2, 5, 5), 0);
        due("to is empty", x.mark(2, NONE), 0);

        about("Promise 18: likewise: to may be a, b");
        due("to is b", x.join(1, 0, 1), 5);
        holds("b", x, 1, 4095, 7, 0, 9, 8);
        due("to is a", x.join(0, 0, 3), 5);
        holds("a", x, 0, 4095, 7, 0, 9, 8);
        due("to is both", x.join(0, 0, 0), 5);
        holds("both", x, 0, 4095, 7, 0, 9, 8);

        about("Promise 18: FULL, likewise: above 64; nothing is changed");
        PodMarks y = plain(7);
        addRow(y, 0, 0, 60);
        addRow(y, 1, 58, 7);
        due("65", y.join(2, 0, 1), FULL);
        due("to is as it was", y.mark(2, NONE), 0);
        due("65, to is a", y.join(0, 0, 1), FULL);
        due("a is as it was", y.mark(0, NONE), 60);
        due("65, to is b", y.join(1, 0, 1), FULL);
        holds("b is as it was", y, 1, 58, 59, 60, 61, 62, 63, 64);
        y.drop(1, 6);
        due("64", y.join(2, 0, 1), 64);
        due("the last", y.mark(2, 63), 63);
        due("64 and 64 like ones", y.join(3, 2, 2), 64);
    }

    private void shortening() {
        about("Promise 19: p 0 .. n - 1; OUTSIDE");
        for (int n = 2; n <= 12; n++) {
            PodMarks x = plain(n);
            x.add(0, (1 << n) - 1);
            due("p 0", x.shorten(1, 0, 0), 1);
            due("all others", x.mark(1, 0), (1 << n - 1) - 1);
            due("p n - 1", x.shorten(2, 0, n - 1), 1);
            due("all others", x.mark(2, 0), (1 << n - 1) - 1);
            for (int p : new int[] {-1, n, LOW, HIGH}) {
                due("p " + p + " of " + n, x.shorten(1, 0, p), OUTSIDE);
            }
            due("n stays", x.is(0), n);
        }

        about("Promise 19: those above it come down by one");
        PodMarks x = plain(5);
        addAll(x, 0, 0b00001, 0b00010, 0b00100, 0b01000, 0b10000);
        due("without place 2", x.shorten(1, 0, 2), 5);
        holds("those below stay", x, 1, 0b00001, 0b00010, 0, 0b00100, 0b01000);
        due("without place 0", x.shorten(1, 0, 0), 5);
        holds("all come down", x, 1, 0, 0b00001, 0b00010, 0b00100, 0b01000);
        due("without place 4", x.shorten(1, 0, 4), 5);
        holds("none comes down", x, 1, 0b00001, 0b00010, 0b00100, 0b01000, 0);

        about("Promise 19: like ones once");
        PodMarks y = withFullList(6);
        due("64 become 32", y.shorten(1, 0, 5), 32);
        due("the last", y.mark(1, 31), 31);
        due("to is a", y.shorten(0, 0, 0), 32);
        due("the first", y.mark(0, 0), 0);
        due("the second", y.mark(0, 1), 1);
        due("of an empty one", y.shorten(1, 5, 0), 0);
        due("to is empty", y.mark(1, NONE), 0);
    }

    private void turning() {
        about("Promise 20: all of a TURNED, in order");
        PodMarks x = plain(7);
        addAll(x, 0, 1, 64, 8, 0, 127, 3);
        due("turn", x.turn(1, 0), 6);
        holds("turned", x, 1, 64, 1, 8, 0, 127, 96);
        due("to is a", x.turn(0, 0), 6);
        holds("turned", x, 0, 64, 1, 8, 0, 127, 96);

        about("Promise 20: an empty and a full one");
        due("empty", x.turn(1, 5), 0);
        due("to is empty", x.mark(1, NONE), 0);
        PodMarks y = withFullList(12);
        due("full", y.turn(1, 0), 64);
        due("the last", y.mark(1, 63), 63 << 6);
    }

    private void even() {
        about("Promise 21: p 0 .. n - 1; OUTSIDE");
        for (int n = 2; n <= 12; n++) {
            PodMarks x = plain(n);
            x.add(0, 2);
            due("p 0", x.even(1, 0, 0), 1);
            due("a pin at place 0", x.mark(1, 0), 3);
            x.clear(0);
            x.add(0, 1);
            due("p n - 1", x.even(1, 0, n - 1), 1);
            due("a pin at place n - 1", x.mark(1, 0), 1 | 1 << n - 1);
            for (int p : new int[] {-1, n, LOW, HIGH}) {
                due("p " + p + " of " + n, x.even(1, 0, p), OUTSIDE);
            }
        }

        about("Promise 21: just where (each without it) the other PINS are an odd number");
        PodMarks x = plain(5);
        addAll(x, 0, 0b00000, 0b00101, 0b00011, 0b11011);
        due("even", x.even(1, 0, 2), 4);
        holds("no pin; one, with it; two; four", x, 1, 0b00000, 0b00101, 0b00011, 0b11011);
        x.clear(0);
        addAll(x, 0, 0b00100, 0b00001, 0b00111, 0b11111);
        due("even", x.even(1, 0, 2), 4);
        holds("it goes, comes, goes, goes", x, 1, 0b00000, 0b00101, 0b00011, 0b11011);

        about("Promise 21: like ones once");
        PodMarks y = withFullList(6);
        due("64 become 32", y.even(1, 0, 5), 32);
        due("the last", y.mark(1, 31), 31 | 32);
        due("to is a", y.even(0, 0, 0), 32);
        due("the second", y.mark(0, 1), 3);
        due("of an empty one", y.even(1, 5, 0), 0);
        due("to is empty", y.mark(1, NONE), 0);
    }
}
