/** Terms 4 and promises 26 to 34: each sentence that names an edge has a test of its own. */
public final class EdgeOwnerTest extends Bench {
    public static void main(String[] args) {
        EdgeOwnerTest test = new EdgeOwnerTest();
        test.owners();
        test.looking();
        test.chances();
        test.likely();
        test.heaps();
        test.fewest();
        test.making();
        test.tracing();
        test.inAll();
        test.framed();
        test.checks.end();
    }

    // ---- owners

    private void owners() {
        about("OWNERS: SURE, if it is just one");
        PodMarks x = with(7, BLIND, 1, 0);
        addAll(x, 0, 0b0000111, 0b0001110, 0b1110000);
        due("sure", x.owner(0, 0b1100000, 0, NONE), 1);
        due("whose", x.owner(0, 0b1100000, 0, 0), 2);
        due("perhaps", x.owner(0, 0b0000110, 0, NONE), 2);
        due("nobody's", x.owner(0, 0b0000100, 0, NONE), 0);

        about("Promise 26: else the i-th (its number); NONE: there is none such");
        due("the first", x.owner(0, 0b0000110, 0, 0), 0);
        due("the last", x.owner(0, 0b0000110, 0, 1), 1);
        for (int i : new int[] {2, 63, 64, -2, LOW, HIGH}) {
            due("i " + i, x.owner(0, 0b0000110, 0, i), NONE);
        }
        due("nobody's first", x.owner(0, 0b0000100, 0, 0), NONE);

        about("Promise 26: an empty LIST has no OWNERS");
        due("how many", x.owner(5, 0, 0, NONE), 0);
        due("the first", x.owner(5, 0, 0, 0), NONE);

        about("Promise 26: all 64 MARKS of a LIST may be OWNERS");
        PodMarks y = with(6, TURNED, 4, 4);
        y.island(LOSING, 0, 0);
        y.build(0, 0, 64);
        y.island(ADDING, 3, 3);
        due("a part of them", y.owner(0, 0b000111, 0, NONE), 64);
        due("the last", y.owner(0, 0b000111, 0, 63), 63);
        due("no more", y.owner(0, 0b000111, 0, 64), NONE);

        about("Promise 26: by THE ISLAND as it is");
        y.island(ADDING, 0, 0);
        due("one", y.owner(0, 0b000111, 0, NONE), 1);
        y.island(TURNED, 0, 0);
        due("two", y.owner(0, 0b000111, 0, NONE), 2);
        due("the second", y.owner(0, 0b000111, 0, 1), 0b111000);

        about("Promise 26: l, LOSING: t places or fewer; else it is empty");
        y.island(LOSING, 2, 0);
        due("two lost", y.owner(0, 0b000111, 0b110000, NONE), 4);
        due("three lost", y.owner(0, 0b000111, 0b111000, NONE), 0);
        y.island(BLIND, 2, 0);
        due("lost, but BLIND", y.owner(0, 0b000111, 0b110000, NONE), 0);

        about("Promise 26: OUTSIDE");
        for (int v : new int[] {-1, 64, LOW, HIGH}) {
            due("s " + v, y.owner(0, v, 0, NONE), OUTSIDE);
            due("l " + v, y.owner(0, 0, v, NONE), OUTSIDE);
        }
        due("s and l have one in common", y.owner(0, 0b100001, 0b100000, NONE), OUTSIDE);
        due("so of an empty list", y.owner(5, 1, 1, 0), OUTSIDE);
    }

    // ---- readings

    private void looking() {
        about("A READING: for each place a number 0 to 9, or NONE; promise 27: OUTSIDE (v NONE .. 9)");
        PodMarks x = new PodMarks();
        for (int v = NONE; v <= 9; v++) {
            x.look(3, v);
            due("v " + v, x.look(3, v), v);
        }
        for (int v : new int[] {-2, 10, LOW, HIGH}) {
            due("v " + v, x.look(3, v), OUTSIDE);
        }
        due("as it was", x.look(3, 0), 9);

        about("A READING: NONE at first");
        for (int n = 2; n <= 12; n++) {
            PodMarks y = plain(n);
            for (int p = 0; p < n; p++) {
                due("place " + p + " of " + n, y.look(p, 5), NONE);
            }
        }

        about("Promise 27: places 0 to n - 1; OUTSIDE");
        for (int n = 2; n <= 12; n++) {
            PodMarks y = plain(n);
            due("place 0 of " + n, y.look(0, 1), NONE);
            due("the last of " + n, y.look(n - 1, 1), NONE);
            for (int p : new int[] {-1, n, LOW, HIGH}) {
                due("place " + p + " of " + n, y.look(p, 1), OUTSIDE);
            }
            due("two of " + n, y.count(2), 2);
        }

        about("Promise 27: what it was; NONE: not looked at");
        PodMarks y = new PodMarks();
        due("at first", y.look(6, 0), NONE);
        due("0 is not NONE", y.look(6, NONE), 0);
        due("NONE again", y.look(6, NONE), NONE);
        due("none is looked at", y.count(2), 0);
    }

    private void chances() {
        about("CHANCE: no place was looked at: 1");
        PodMarks x = plain(12);
        addAll(x, 0, 0, 4095);
        due("no pin", x.chance(0, 0), 1);
        due("all pins", x.chance(0, 1), 1);

        about("CHANCE: the number, if it has a PIN there, else 9 less it");
        for (int v = 0; v <= 9; v++) {
            x.look(11, v);
            due("v " + v + ", no pin", x.chance(0, 0), 9 - v);
            due("v " + v + ", a pin", x.chance(0, 1), v);
        }

        about("CHANCE: each place that was looked at, multiplied");
        x = plain(12);
        addAll(x, 0, 0, 4095, 1);
        for (int p = 0; p < 12; p++) {
            x.look(p, 9);
        }
        due("9 to the 12", x.chance(0, 1), 282429536481L);
        due("surely not", x.chance(0, 0), 0);
        due("surely not either", x.chance(0, 2), 0);
        x.look(11, NONE);
        due("9 to the 11", x.chance(0, 1), 31381059609L);

        about("Promise 28: UNKNOWN: a MARK that there is not, NONE too");
        for (int i : new int[] {3, -1, -2, 64, LOW, HIGH}) {
            due("i " + i, x.chance(0, i), UNKNOWN);
        }
        due("of an empty list", x.chance(5, 0), UNKNOWN);
        for (int list : NO_LISTS) {
            due("list " + list, x.chance(list, 0), UNKNOWN);
        }
    }

    private void order(PodMarks x, int... numbers) {
        due("how many", x.likely(0, NONE), numbers.length);
        for (int i = 0; i < numbers.length; i++) {
            due("the " + i + "-th", x.likely(0, i), numbers[i]);
        }
        due("no more", x.likely(0, numbers.length), NONE);
    }

    private void likely() {
        about("LIKELY: no place was looked at: all, in order");
        PodMarks x = plain(12);
        addAll(x, 0, 4095, 0, 9, 1);
        order(x, 0, 1, 2, 3);

        about("LIKELY: the greatest first");
        x.look(0, 5);
        x.look(3, 6);
        order(x, 0, 2, 3, 1);

        about("LIKELY: of like ones the lesser in order, not the lesser MARK");
        x = plain(4);
        addAll(x, 0, 8, 4, 2, 1, 3);
        x.look(0, 3);
        x.look(1, 3);
        order(x, 0, 1, 2, 3, 4);
        x.look(1, NONE);
        order(x, 0, 1, 2, 3, 4);
        x.look(0, 6);
        order(x, 3, 4, 0, 1, 2);

        about("LIKELY: those of CHANCE 0 not");
        x.look(0, 0);
        order(x, 0, 1, 2);
        x.look(3, 9);
        order(x, 0);
        x.look(2, 9);
        order(x);

        about("LIKELY: by CHANCES of more than 32 bits");
        x = plain(12);
        addAll(x, 0, 0b001111111111, 0b111111111111, 0b011111111111);
        for (int p = 0; p < 12; p++) {
            x.look(p, 8);
        }
        order(x, 1, 2, 0);

        about("Promise 29: NONE: there is none such");
        for (int i : new int[] {3, 63, 64, -2, LOW, HIGH}) {
            due("i " + i, x.likely(0, i), NONE);
        }
        due("of an empty list", x.likely(5, 0), NONE);
        due("an empty list has none", x.likely(5, NONE), 0);

        about("LIKELY: a LIST of 64");
        x = plain(7);
        x.build(0, 0, 64);
        due("all", x.likely(0, NONE), 64);
        due("the last", x.likely(0, 63), 63);
        due("no more", x.likely(0, 64), NONE);
        x.look(0, 6);
        due("odd ones first", x.likely(0, 0), 1);
        due("the last of them", x.likely(0, 31), 63);
        due("then even ones", x.likely(0, 32), 0);
        due("the last", x.likely(0, 63), 62);
    }

    // ---- heaps

    private void explained(PodMarks x, int s, int one, int two, int three) {
        due("of one", x.heap(0, s, 1, NONE), one);
        due("of two", x.heap(0, s, 2, NONE), two);
        due("of three", x.heap(0, s, 3, NONE), three);
    }

    private void heaps() {
        about("EXPLAINED by one to h MARKS of a LIST");
        PodMarks x = plain(4);
        addAll(x, 0, 1, 2, 4, 8);
        explained(x, 0b0001, 1, 1, 1);
        explained(x, 0b0011, 0, 1, 1);
        explained(x, 0b0111, 0, 0, 1);
        explained(x, 0b1111, 0, 0, 0);

        about("EXPLAINED: if all their PINS together are just that");
        x = plain(4);
        addAll(x, 0, 0b0011, 0b0110, 0b0111);
        explained(x, 0b0111, 1, 4, 5);
        explained(x, 0b0011, 1, 1, 1);
        explained(x, 0b0010, 0, 0, 0);
        explained(x, 0b1111, 0, 0, 0);

        about("A HEAP without a PIN: explained by the MARK that has none");
        explained(x, 0, 0, 0, 0);
        x.add(0, 0);
        explained(x, 0, 1, 1, 1);
        explained(x, 0b0011, 1, 2, 2);

        about("A HEAP by an empty LIST, by one of one MARK");
        x = plain(4);
        explained(x, 0, 0, 0, 0);
        x.add(0, 15);
        explained(x, 15, 1, 1, 1);

        about("Promise 30: how many SETS of MARKS: of a LIST of 64");
        x = plain(12);
        addRow(x, 0, 0, 64);
        explained(x, 63, 1, 1 + 364, 1 + 364 + 19244);

        about("A HEAP of h (1 .. 3); promise 30: OUTSIDE");
        for (int h : new int[] {0, 4, -1, LOW, HIGH}) {
            due("h " + h, x.heap(0, 1, h, 0), OUTSIDE);
        }

        about("Promise 30: OUTSIDE: s of other places");
        for (int s : new int[] {-1, 4096, LOW, HIGH}) {
            due("s " + s, x.heap(0, s, 3, NONE), OUTSIDE);
        }

        about("Promise 30: what NONE .. 3; OUTSIDE");
        for (int what : new int[] {-2, 4, LOW, HIGH}) {
            due("what " + what, x.heap(0, 1, 3, what), OUTSIDE);
        }
        due("OUTSIDE also of an empty list", x.heap(5, 1, 3, 4), OUTSIDE);
    }

    private void fewestAre(PodMarks x, int s, int h, int... numbers) {
        due("THE FEWEST of " + s, x.heap(0, s, h, 0), numbers.length == 0 ? NONE : numbers.length);
        for (int what = 1; what <= 3; what++) {
            due("what " + what + " of " + s, x.heap(0, s, h, what), what <= numbers.length ? numbers[what - 1] : NONE);
        }
    }

    private void fewest() {
        about("THE FEWEST: those of fewest MARKS");
        PodMarks x = plain(4);
        addAll(x, 0, 0b001, 0b010, 0b100, 0b110, 0b111);
        fewestAre(x, 0b111, 3, 4);
        x.drop(0, 4);
        fewestAre(x, 0b111, 3, 0, 3);
        x.drop(0, 3);
        fewestAre(x, 0b111, 3, 0, 1, 2);

        about("THE FEWEST: NONE, where none explains it, and behind its last MARK");
        fewestAre(x, 0b111, 2);
        fewestAre(x, 0b111, 1);
        fewestAre(x, 0b011, 3, 0, 1);
        fewestAre(x, 0b001, 1, 0);
        fewestAre(x, 0, 3);
        due("of an empty list", x.heap(5, 0, 3, 0), NONE);
        due("its first", x.heap(5, 0, 3, 1), NONE);

        about("THE FEWEST: of these the first by rows (MARKS' numbers in the LIST rising)");
        x = plain(4);
        addAll(x, 0, 0b1000, 0b0100, 0b0111, 0b1011, 0b1110, 0b0011);
        fewestAre(x, 0b1111, 2, 0, 2);
        x.drop(0, 2);
        fewestAre(x, 0b1111, 2, 1, 2);
        x.drop(0, 2);
        fewestAre(x, 0b1111, 3, 2, 3);

        about("THE FEWEST: numbers, not MARKS; the last ones of a full LIST");
        x = plain(12);
        addRow(x, 0, 2048, 61);
        addAll(x, 0, 1, 2, 4);
        fewestAre(x, 7, 3, 61, 62, 63);
        explained(x, 7, 0, 0, 1);
    }

    // ---- rings

    private void making() {
        about("A RING can MAKE s: where all have a PIN s has one, where none has one it has none");
        PodMarks x = plain(4);
        addAll(x, 0, 0b0011, 0b0101, 0b0001);
        for (int s = 0; s < 16; s++) {
            due("two make " + s, x.make(0, 0, 1, NONE, s), (s & 0b1001) == 0b0001 ? 1 : 0);
            due("three make " + s, x.make(0, 2, 1, 0, s), (s & 0b1001) == 0b0001 ? 1 : 0);
            due("one makes " + s, x.make(0, 0, NONE, NONE, s), s == 0b0011 ? 1 : 0);
        }

        about("A RING: at the lowest and at the highest place too");
        x = plain(12);
        addAll(x, 0, 0, 4095, 2048, 1);
        due("all free", x.make(0, 0, 1, NONE, 0b101010101010), 1);
        due("the highest must not be", x.make(0, 0, 3, NONE, 2048), 0);
        due("the lowest must not be", x.make(0, 0, 2, NONE, 1), 0);
        due("the highest must be", x.make(0, 1, 2, NONE, 2047), 0);
        due("the lowest must be", x.make(0, 1, 3, NONE, 4094), 0);

        about("Promise 31: j, k NONE: none");
        x = plain(4);
        addAll(x, 0, 0b0011, 0b0101, 0b1001);
        due("i alone", x.make(0, 1, NONE, NONE, 0b0101), 1);
        due("i and k", x.make(0, 0, NONE, 2, 0b1011), 1);
        due("i and j", x.make(0, 0, 2, NONE, 0b1011), 1);
        due("not without j", x.make(0, 0, NONE, 2, 0b0111), 0);
        due("not without k", x.make(0, 0, 1, NONE, 0b1011), 0);

        about("Promise 31: like ones may be");
        due("three of one", x.make(0, 1, 1, 1, 0b0101), 1);
        due("three of one make no other", x.make(0, 1, 1, 1, 0b0001), 0);
        due("two of one", x.make(0, 1, 0, 0, 0b0111), 1);

        about("Promise 31: UNKNOWN: a MARK that there is not; i NONE too");
        for (int v : new int[] {3, 64, -2, LOW, HIGH}) {
            due("i " + v, x.make(0, v, NONE, NONE, 0), UNKNOWN);
            due("j " + v, x.make(0, 0, v, NONE, 0), UNKNOWN);
            due("k " + v, x.make(0, 0, NONE, v, 0), UNKNOWN);
        }
        due("i NONE", x.make(0, NONE, 0, 0, 0), UNKNOWN);
        due("an empty list", x.make(5, 0, NONE, NONE, 0), UNKNOWN);
        for (int list : NO_LISTS) {
            due("list " + list, x.make(list, 0, NONE, NONE, 0), UNKNOWN);
        }

        about("Promise 31: OUTSIDE");
        for (int s : new int[] {-1, 16, LOW, HIGH}) {
            due("s " + s, x.make(0, 0, 1, 2, s), OUTSIDE);
        }
    }

    private void traced(PodMarks x, int s, int h, int rings, int fewest, int inAll) {
        String where = s + " to rings of " + h + ": ";
        due(where + "how many", x.trace(0, s, h, 0), rings);
        due(where + "the fewest", x.trace(0, s, h, 1), fewest);
        due(where + "in all", x.trace(0, s, h, 2), inAll);
    }

    private void tracing() {
        about("TRACED to RINGS of at most h, as SETS of MARKS");
        PodMarks x = plain(2);
        addAll(x, 0, 1, 2);
        traced(x, 1, 1, 1, 1, 1);
        traced(x, 1, 2, 2, 1, 1);
        traced(x, 1, 3, 2, 1, 1);
        traced(x, 0, 2, 1, 2, 2);
        traced(x, 0, 3, 1, 2, 2);
        x.add(0, 0);
        traced(x, 1, 3, 4, 1, 1);
        traced(x, 0, 3, 1 + 3 + 1, 1, 0);

        about("TRACED: there is no RING: 0, NONE, NONE");
        x = plain(2);
        addAll(x, 0, 1, 2);
        traced(x, 0, 1, 0, NONE, NONE);
        x.clear(0);
        x.add(0, 3);
        traced(x, 2, 3, 0, NONE, NONE);
        x.clear(0);
        traced(x, 0, 3, 0, NONE, NONE);

        about("TRACED: RINGS, but no MARK IN ALL: 0");
        x = plain(3);
        addAll(x, 0, 0b001, 0b010, 0b100);
        traced(x, 0, 2, 3, 2, 0);
        traced(x, 0, 3, 4, 2, 0);

        about("TRACED: MARKS of the fewest: three");
        x = plain(3);
        addAll(x, 0, 0b001, 0b010, 0b100);
        traced(x, 0b111, 3, 1, 3, 3);
        traced(x, 0b111, 2, 0, NONE, NONE);

        about("TRACED: by a LIST of 64");
        x = plain(12);
        addRow(x, 0, 0, 64);
        traced(x, 63, 1, 1, 1, 1);
        traced(x, 63, 2, 365, 1, 0);
        traced(x, 63, 3, 19609, 1, 0);

        about("RINGS of at most h (1 .. 3); promise 32: OUTSIDE");
        for (int h : new int[] {0, 4, -1, LOW, HIGH}) {
            due("h " + h, x.trace(0, 1, h, 0), OUTSIDE);
        }

        about("Promise 32: OUTSIDE: s of other places");
        for (int s : new int[] {-1, 4096, LOW, HIGH}) {
            due("s " + s, x.trace(0, s, 1, 0), OUTSIDE);
        }

        about("Promise 32: what 0 .. 2; OUTSIDE");
        for (int what : new int[] {-1, 3, LOW, HIGH}) {
            due("what " + what, x.trace(0, 1, 1, what), OUTSIDE);
        }
        due("OUTSIDE also of an empty list", x.trace(5, 1, 1, 3), OUTSIDE);
    }

    /** At places 0, 1, 2 only the last three agree with 7. */
    private static PodMarks withLastRing() {
        PodMarks x = plain(12);
        for (int k = 0; k < 61; k++) {
            x.add(0, 2048 + 8 * k);
        }
        addAll(x, 0, 1, 2, 4);
        return x;
    }

    private void inAll() {
        about("IN ALL: MARKS (by numbers), also the last of a full LIST");
        PodMarks x = withLastRing();
        traced(x, 7, 3, 1, 3, 3);
        due("the first", x.inAll(0, 7, 3, 0), 61);
        due("the second", x.inAll(0, 7, 3, 1), 62);
        due("the third", x.inAll(0, 7, 3, 2), 63);
        due("no more", x.inAll(0, 7, 3, 3), NONE);

        about("IN ALL: of RINGS of one MARK: it alone, the first or the last of a LIST");
        due("number 0", x.inAll(0, 2048, 1, 0), 0);
        due("number 63", x.inAll(0, 4, 1, 0), 63);
        due("no other", x.inAll(0, 4, 1, 1), NONE);

        about("IN ALL: in each RING to which it is TRACED");
        PodMarks y = plain(3);
        addAll(y, 0, 0b010, 0b001, 0b011, 0b101);
        traced(y, 0b111, 2, 2, 2, 1);
        due("who", y.inAll(0, 0b111, 2, 0), 3);
        due("no other", y.inAll(0, 0b111, 2, 1), NONE);

        about("Promise 33: NONE: there is none such");
        for (int i : new int[] {3, 63, 64, NONE, -2, LOW, HIGH}) {
            due("i " + i, x.inAll(0, 7, 3, i), NONE);
        }

        about("Promise 33: NONE: there is no RING, or none is IN ALL");
        due("no ring of two", x.inAll(0, 7, 2, 0), NONE);
        due("an empty list", x.inAll(5, 7, 3, 0), NONE);
        PodMarks z = plain(3);
        addAll(z, 0, 0b001, 0b010, 0b100);
        due("none in all", z.inAll(0, 0, 2, 0), NONE);

        about("Promise 33: OUTSIDE");
        for (int h : new int[] {0, 4, -1, LOW, HIGH}) {
            due("h " + h, x.inAll(0, 7, h, 0), OUTSIDE);
        }
        for (int s : new int[] {-1, 4096, LOW, HIGH}) {
            due("s " + s, x.inAll(0, s, 3, 0), OUTSIDE);
        }
    }

    private void framedBy(PodMarks x, int one, int two, int three) {
        due("h 1", x.framed(0, 1), one);
        due("h 2", x.framed(0, 2), two);
        due("h 3", x.framed(0, 3), three);
    }

    private void framed() {
        about("FRAMED is a MARK by a RING it is not in: never by one alone, nor where there are no others");
        PodMarks x = plain(3);
        framedBy(x, 0, 0, 0);
        x.add(0, 5);
        framedBy(x, 0, 0, 0);
        x.add(0, 2);
        framedBy(x, 0, 0, 0);

        about("FRAMED: whatever was asked before");
        due("2 is itself a ring", x.trace(0, 2, 1, 0), 1);
        framedBy(x, 0, 0, 0);
        due("5 is itself a ring", x.trace(0, 5, 1, 0), 1);
        framedBy(x, 0, 0, 0);

        about("FRAMED: that can MAKE it: by two");
        x = plain(3);
        addAll(x, 0, 0b001, 0b010, 0b000);
        framedBy(x, 0, 1, 1);
        x.add(0, 0b011);
        framedBy(x, 0, 4, 4);

        about("FRAMED: by three, not by two");
        x = plain(3);
        addAll(x, 0, 0b001, 0b010, 0b100, 0b111);
        framedBy(x, 0, 0, 4);

        about("FRAMED: a LIST of 64");
        x = plain(6);
        x.build(0, 0, 64);
        framedBy(x, 0, 64, 64);
        // Of the last three each has a pin that no other has; each of the others has two like it but for one place each.
        framedBy(withLastRing(), 0, 61, 61);

        about("FRAMED by some RING of at most h (1 .. 3); promise 34: OUTSIDE");
        for (int h : new int[] {0, 4, -1, LOW, HIGH}) {
            due("h " + h, x.framed(0, h), OUTSIDE);
            due("h " + h + " of an empty list", x.framed(5, h), OUTSIDE);
        }
    }
}
