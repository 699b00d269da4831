/** Terms 1 and promises 1 to 8: each sentence that names an edge has a test of its own. */
public final class EdgeIslandTest extends Bench {
    private static final int[] KINDS = {LOSING, BLIND, ADDING, TURNED};

    public static void main(String[] args) {
        EdgeIslandTest test = new EdgeIslandTest();
        test.newObject();
        test.places();
        test.islands();
        test.turning();
        test.losing();
        test.blind();
        test.adding();
        test.eitherEnd();
        test.seen();
        test.alike();
        test.witness();
        test.fills();
        test.checks.end();
    }

    // ---- a new object, places

    private void newObject() {
        about("An object is used for at most 512 calls: the last of them is answered too");
        PodMarks x = new PodMarks();
        for (int call = 1; call < 512; call++) {
            x.look(call % 7, call % 10);
        }
        due("call 512", x.count(2), 7);

        about("Promise 1: seven places");
        due("is(0)", new PodMarks().is(0), 7);
        due("the highest place", new PodMarks().add(0, 127), 1);
        due("one more", new PodMarks().add(0, 128), OUTSIDE);

        about("Promise 1: LOSING 1");
        due("KIND", new PodMarks().is(1), LOSING);
        due("t", new PodMarks().is(2), 1);
        due("one is lost", new PodMarks().may(1, 0, 1), 1);
        due("two are lost", new PodMarks().may(3, 0, 3), 0);

        about("Terms 1: a .. 0 at first");
        due("a", new PodMarks().is(3), 0);

        about("Promise 1: all LISTS empty");
        PodMarks other = new PodMarks();
        addAll(other, 0, 1, 2, 3);
        PodMarks y = new PodMarks();
        for (int list = 0; list < 6; list++) {
            due("list " + list, y.mark(list, NONE), 0);
            due("its mark 0", y.mark(list, 0), UNKNOWN);
        }
        due("in all", y.count(0), 0);
    }

    private void places() {
        about("Terms 1: n 2 .. 12");
        for (int n = 2; n <= 12; n++) {
            PodMarks x = new PodMarks();
            due("places(" + n + ")", x.places(n), n);
            due("is(0)", x.is(0), n);
        }
        for (int n : new int[] {1, 13, 0, -1, -2, 14, LOW, HIGH}) {
            due("places(" + n + ")", new PodMarks().places(n), OUTSIDE);
        }

        about("Terms 2: all are empty, if n becomes another one");
        PodMarks x = fullOfThings();
        due("places", x.places(11), 11);
        for (int list = 0; list < 6; list++) {
            due("list " + list, x.mark(list, NONE), 0);
        }
        due("a mark that it had comes again", x.add(0, 0), 1);

        about("Promise 2: all LISTS are empty, also with the n that there is");
        x = fullOfThings();
        due("places", x.places(12), 12);
        due("marks", x.count(0), 0);
        due("a mark that it had comes again", x.add(5, 5), 1);

        about("Promise 2: THE READING is empty");
        x = fullOfThings();
        x.places(2);
        due("places looked at", x.count(2), 0);
        x.places(12);
        for (int p = 0; p < 12; p++) {
            due("place " + p, x.look(p, 3), NONE);
        }
        due("the n that there is", x.places(12), 12);
        due("none is looked at", x.count(2), 0);

        about("Promise 2: nothing else: THE ISLAND and THE TEXT stay");
        x = fullOfThings();
        x.places(3);
        due("KIND", x.is(1), TURNED);
        due("t", x.is(2), 4);
        due("a", x.is(3), 3);
        due("bytes", x.count(1), 6);
        due("they are 'pins 2'", x.read(0), 3);

        about("Promise 2: OUTSIDE, and nothing is changed");
        x = fullOfThings();
        String before = stateOf(x);
        due("places(1)", x.places(1), OUTSIDE);
        due("places(13)", x.places(13), OUTSIDE);
        checks.holds("it is as before", stateOf(x).equals(before));
    }

    private static PodMarks fullOfThings() {
        PodMarks x = with(12, TURNED, 4, 3);
        for (int list = 0; list < 6; list++) {
            addAll(x, list, list, 4095);
        }
        for (int p = 0; p < 12; p++) {
            x.look(p, p % 10);
        }
        feedAll(x, "pins 2");
        return x;
    }

    // ---- the island's numbers

    private void islands() {
        about("Terms 1: KIND 0 to 3");
        for (int kind : KINDS) {
            PodMarks x = new PodMarks();
            due("island", x.island(kind, 0, 0), 1);
            due("KIND", x.is(1), kind);
        }
        for (int kind : new int[] {-1, 4, LOW, HIGH}) {
            due("KIND " + kind, new PodMarks().island(kind, 0, 0), OUTSIDE);
        }

        about("Terms 1: t 0 .. 4, on every KIND");
        for (int kind : KINDS) {
            for (int t : new int[] {0, 4}) {
                PodMarks x = new PodMarks();
                due("t " + t, x.island(kind, t, 0), 1);
                due("is(2)", x.is(2), t);
            }
            for (int t : new int[] {-1, 5, LOW, HIGH}) {
                due("KIND " + kind + ", t " + t, new PodMarks().island(kind, t, 0), OUTSIDE);
            }
        }

        about("Terms 1: a 0 .. 4, on every KIND");
        for (int kind : KINDS) {
            for (int a : new int[] {0, 4}) {
                PodMarks x = new PodMarks();
                due("a " + a, x.island(kind, 0, a), 1);
                due("is(3)", x.is(3), a);
            }
            for (int a : new int[] {-1, 5, LOW, HIGH}) {
                due("KIND " + kind + ", a " + a, new PodMarks().island(kind, 0, a), OUTSIDE);
            }
        }

        about("Promise 3: OUTSIDE, and nothing is changed");
        PodMarks x = with(7, ADDING, 2, 3);
        due("KIND 4", x.island(4, 0, 0), OUTSIDE);
        due("t 5", x.island(0, 5, 0), OUTSIDE);
        due("a 5", x.island(0, 0, 5), OUTSIDE);
        due("KIND is", x.is(1), ADDING);
        due("t is", x.is(2), 2);
        due("a is", x.is(3), 3);

        about("Promise 4: what = 0 n, 1 KIND, 2 t, 3 a; OUTSIDE");
        x = with(12, TURNED, 4, 1);
        due("0", x.is(0), 12);
        due("1", x.is(1), 3);
        due("2", x.is(2), 4);
        due("3", x.is(3), 1);
        for (int what : new int[] {-1, 4, LOW, HIGH}) {
            due("what " + what, x.is(what), OUTSIDE);
        }
    }

    // ---- turned

    private void turning() {
        about("Terms 1: TURNED it is with place k in the place of n - 1 - k");
        for (int n = 2; n <= 12; n++) {
            PodMarks x = plain(n);
            for (int k = 0; k < n; k++) {
                due("place " + k + " of " + n, x.turned(1 << k), 1 << n - 1 - k);
            }
            due("no pin of " + n, x.turned(0), 0);
            due("all pins of " + n, x.turned((1 << n) - 1), (1 << n) - 1);
        }

        about("Promise 5: OUTSIDE");
        for (int n = 2; n <= 12; n++) {
            PodMarks x = plain(n);
            due("one place too high, of " + n, x.turned(1 << n), OUTSIDE);
            due("below 0, of " + n, x.turned(-1), OUTSIDE);
            due("the lowest, of " + n, x.turned(LOW), OUTSIDE);
            due("the highest, of " + n, x.turned(HIGH), OUTSIDE);
        }
    }

    // ---- what a mark may be seen as

    private static int low(int many) {
        return (1 << many) - 1;
    }

    private void losing() {
        about("LOSING: l are t places or fewer");
        for (int t = 0; t <= 4; t++) {
            PodMarks x = with(12, LOSING, t, 4);
            int m = 0b101010101010;
            due("t " + t + ": t of them", x.may(m, m & ~low(t), low(t)), 1);
            due("t " + t + ": one more", x.may(m, m & ~low(t + 1), low(t + 1)), 0);
            due("t " + t + ": none", x.may(m, m, 0), 1);
            due("t " + t + ": the highest ones", x.may(m, m & low(12 - t), low(t) << 12 - t), 1);
            due("t " + t + ": the highest, and one more", x.may(m, m & low(11 - t), low(t + 1) << 11 - t), 0);
        }

        about("LOSING: up to t places, where there are fewer");
        PodMarks x = with(2, LOSING, 4, 0);
        due("both", x.may(3, 0, 3), 1);
        due("both, of no pin", x.may(0, 0, 3), 1);
        x = with(3, LOSING, 4, 0);
        due("all three", x.may(5, 0, 7), 1);

        about("LOSING: the MARK without l is s");
        x = with(5, LOSING, 2, 4);
        due("a lost pin", x.may(0b00111, 0b00110, 0b00001), 1);
        due("a lost place without a pin", x.may(0b00111, 0b00111, 0b01000), 1);
        due("a pin is missing", x.may(0b00111, 0b00100, 0b00001), 0);
        due("a pin is there beside", x.may(0b00111, 0b01110, 0b00001), 0);
        due("turned", x.may(0b00111, 0b11100, 0), 0);
    }

    private void blind() {
        about("BLIND: t PINS or fewer are not in s");
        for (int t = 0; t <= 4; t++) {
            PodMarks x = with(12, BLIND, t, 0);
            due("t " + t + ": t of them", x.may(4095, 4095 & ~low(t), 0), 1);
            due("t " + t + ": one more", x.may(4095, 4095 & ~low(t + 1), 0), 0);
            due("t " + t + ": none", x.may(4095, 4095, 0), 1);
        }

        about("BLIND: up to t PINS, of which there are fewer");
        PodMarks x = with(7, BLIND, 4, 0);
        due("one pin", x.may(64, 0, 0), 1);
        due("no pin", x.may(0, 0, 0), 1);

        about("BLIND: s is in the MARK, whatever a is");
        for (int a = 0; a <= 4; a++) {
            x = with(7, BLIND, 4, a);
            due("a " + a + ": a pin more", x.may(0b0000111, 0b0001111, 0), 0);
            due("a " + a + ": a pin elsewhere", x.may(0b0000111, 0b0001011, 0), 0);
            due("a " + a + ": turned", x.may(0b0000001, 0b1000000, 0), 0);
        }
    }

    private void adding() {
        about("ADDING: t PINS or fewer of the MARK are not in s");
        for (int t = 0; t <= 4; t++) {
            PodMarks x = with(12, ADDING, t, 0);
            due("t " + t + ": t of them", x.may(63, 63 & ~low(t), 0), 1);
            due("t " + t + ": one more", x.may(63, 63 & ~low(t + 1), 0), 0);
        }

        about("ADDING: a or fewer of s not in the MARK");
        for (int a = 0; a <= 4; a++) {
            PodMarks x = with(12, ADDING, 0, a);
            due("a " + a + ": a of them", x.may(63, 63 | low(a) << 6, 0), 1);
            due("a " + a + ": one more", x.may(63, 63 | low(a + 1) << 6, 0), 0);
        }

        about("ADDING: both at once, each by its own number");
        for (int t = 0; t <= 4; t++) {
            for (int a = 0; a <= 4; a++) {
                PodMarks x = with(12, ADDING, t, a);
                String where = "t " + t + ", a " + a;
                due(where, x.may(63, 63 & ~low(t) | low(a) << 6, 0), 1);
                due(where + ", one more unseen", x.may(63, 63 & ~low(t + 1) | low(a) << 6, 0), 0);
                due(where + ", one more added", x.may(63, 63 & ~low(t) | low(a + 1) << 6, 0), 0);
            }
        }
        due("not turned", with(7, ADDING, 0, 0).may(1, 64, 0), 0);
    }

    private void eitherEnd() {
        about("TURNED: so it is with the MARK");
        PodMarks x = with(12, TURNED, 2, 1);
        due("two unseen, one added", x.may(63, 0b000001111100, 0), 1);
        due("three unseen", x.may(63, 0b000000111000, 0), 0);
        due("two added", x.may(63, 0b000011111111, 0), 0);

        about("TURNED: or with it TURNED");
        due("two unseen, one added", x.may(63, 0b001111100000, 0), 1);
        due("three unseen", x.may(63, 0b000111000000, 0), 0);
        due("two added", x.may(63, 0b111111110000, 0), 0);

        about("TURNED: from either end, not from both at once");
        x = with(6, TURNED, 1, 0);
        due("a pin of each end", x.may(0b000011, 0b100001, 0), 0);
        due("all of both ends", x.may(0b000011, 0b110011, 0), 0);

        about("TURNED: at t 0, a 0 it is the MARK or it TURNED");
        x = with(5, TURNED, 0, 0);
        due("itself", x.may(0b00011, 0b00011, 0), 1);
        due("turned", x.may(0b00011, 0b11000, 0), 1);
        due("another", x.may(0b00011, 0b10001, 0), 0);
    }

    private void seen() {
        about("Terms 1: else l is empty");
        for (int kind : new int[] {BLIND, ADDING, TURNED}) {
            PodMarks x = with(7, kind, 4, 4);
            due("KIND " + kind + ", l 0", x.may(7, 7, 0), 1);
            due("KIND " + kind + ", l 8", x.may(7, 7, 8), 0);
            due("KIND " + kind + ", l of an unseen pin", x.may(7, 6, 1), 0);
            due("KIND " + kind + ", l 64", x.may(7, 7, 64), 0);
        }

        about("Promise 6: OUTSIDE: s and l have one in common, on every KIND");
        for (int kind : KINDS) {
            PodMarks x = with(7, kind, 4, 4);
            due("KIND " + kind + ", the lowest", x.may(7, 7, 1), OUTSIDE);
            due("KIND " + kind + ", the highest", x.may(64, 64, 64), OUTSIDE);
            due("KIND " + kind + ", one of several", x.may(0, 0b0111000, 0b0001111), OUTSIDE);
        }

        about("Promise 6: OUTSIDE: SETS of other places");
        for (int n = 2; n <= 12; n++) {
            PodMarks x = with(n, LOSING, 4, 0);
            for (int v : new int[] {-1, 1 << n, LOW, HIGH}) {
                due("m " + v + " of " + n, x.may(v, 0, 0), OUTSIDE);
                due("s " + v + " of " + n, x.may(0, v, 0), OUTSIDE);
                due("l " + v + " of " + n, x.may(0, 0, v), OUTSIDE);
            }
            due("the highest place of " + n, x.may(1 << n - 1, 0, 1 << n - 1), 1);
        }
    }

    // ---- two marks

    private void alike() {
        about("ALIKE, LOSING: where t places differ, not more");
        for (int t = 0; t <= 4; t++) {
            PodMarks x = with(12, LOSING, t, 4);
            due("t " + t + ": t", x.between(low(t), 0, 1), low(t));
            due("t " + t + ": t, from both", x.between(0b010000000000, 0b010000000000 ^ low(t), 1), low(t));
            due("t " + t + ": one more", x.between(low(t + 1), 0, 1), NONE);
            due("t " + t + ": one more, the other first", x.between(0, low(t + 1), 0), NONE);
        }

        about("ALIKE, BLIND: where each has t PINS alone, not more, whatever a is");
        for (int t = 0; t <= 4; t++) {
            PodMarks x = with(12, BLIND, t, 4);
            due("t " + t + ": t each", x.between(low(t), low(t) << 6, 0), 0);
            due("t " + t + ": the first one more", x.between(low(t + 1), 0, 0), NONE);
            due("t " + t + ": the second one more", x.between(0, low(t + 1), 0), NONE);
        }

        about("ALIKE, ADDING: where each has t and a PINS alone, not more");
        for (int t = 0; t <= 4; t++) {
            for (int a = 0; a <= 4; a++) {
                alikeAdding(with(12, ADDING, t, a), t, a);
            }
        }

        about("ALIKE, TURNED: also where one of them is TURNED");
        PodMarks x = with(7, TURNED, 0, 0);
        due("turned", x.between(0b0000011, 0b1100000, 0), 0b0000011);
        due("not turned", x.between(0b0000011, 0b0110000, 0), NONE);
        x.island(TURNED, 1, 0);
        due("one unseen and turned", x.between(0b0000011, 0b1000000, 0), 0b0000001);
        due("two unseen", x.between(0b0000111, 0b1000000, 0), NONE);

        about("ALIKE: a MARK is alike to itself on every ISLAND");
        for (int kind : KINDS) {
            due("KIND " + kind + ", no pin", with(12, kind, 0, 0).between(0, 0, 0), 0);
            due("KIND " + kind + ", all pins", with(12, kind, 0, 0).between(4095, 4095, 0), 4095);
            due("KIND " + kind + ", l", with(12, kind, 0, 0).between(4095, 4095, 1), 0);
        }
    }

    private void alikeAdding(PodMarks x, int t, int a) {
        int far = t + a;
        String where = "t " + t + ", a " + a;
        due(where + ", the first alone", x.between(low(far), 0, 0), low(a));
        due(where + ", the second alone", x.between(0, low(far), 0), low(a));
        due(where + ", one more", x.between(low(far + 1), 0, 0), NONE);
        due(where + ", one more on the second", x.between(0, low(far + 1), 0), NONE);
        if (far <= 6) {
            due(where + ", both", x.between(low(far), low(far) << 6, 0), low(a) | low(a) << 6);
        }
    }

    private void witness() {
        about("WITNESS: the least l");
        PodMarks x = with(12, LOSING, 4, 0);
        due("of the same two none is lost", x.between(4095, 4095, 1), 0);
        due("only where they differ", x.between(0b100000000001, 0b000000000000, 1), 0b100000000001);
        due("on both sides", x.between(0b100001, 0b000110, 1), 0b100111);

        about("WITNESS: then the least s");
        due("without those lost", x.between(0b110001, 0b110110, 0), 0b110000);
        x.island(BLIND, 4, 0);
        due("the highest are not seen", x.between(0b111111, 0b111111, 0), 0b000011);
        due("those that one has alone, and the highest", x.between(0b111111, 0b111110, 0), 0b000110);
        x.island(ADDING, 1, 4);
        due("none is added without need", x.between(0b0111, 0b0111, 0), 0b0011);
        due("added where it is lower", x.between(0b110000, 0b001100, 0), 0b010100);
        x.island(TURNED, 0, 0);
        due("the lesser end", x.between(2048, 2048, 0), 1);
        due("the lesser end of two", x.between(0b110000000000, 0b000000000011, 0), 0b11);

        about("Promise 7: NONE: they are not ALIKE");
        for (int kind : KINDS) {
            x = with(12, kind, 1, 0);
            due("KIND " + kind + ", s", x.between(0, 0b11, 0), NONE);
            due("KIND " + kind + ", l", x.between(0, 0b11, 1), NONE);
        }

        about("Promise 7: l is empty but for LOSING");
        for (int kind : new int[] {BLIND, ADDING, TURNED}) {
            due("KIND " + kind, with(12, kind, 2, 1).between(0b111, 0b1, 1), 0);
        }

        about("Promise 7: OUTSIDE");
        for (int n = 2; n <= 12; n++) {
            x = plain(n);
            for (int v : new int[] {-1, 1 << n, LOW, HIGH}) {
                due("m " + v + " of " + n, x.between(v, 0, 0), OUTSIDE);
                due("k " + v + " of " + n, x.between(0, v, 1), OUTSIDE);
            }
        }
        for (int what : new int[] {-1, 2, LOW, HIGH}) {
            due("what " + what, x.between(0, 0, what), OUTSIDE);
        }
    }

    // ---- fills

    private void fills() {
        about("FILLS, LOSING: by places, not by PINS");
        PodMarks x = with(12, LOSING, 4, 4);
        due("no pin", x.fills(0), 1 + 12 + 66 + 220 + 495);
        due("all pins", x.fills(4095), 1 + 12 + 66 + 220 + 495);
        due("t 0", with(12, LOSING, 0, 4).fills(5), 1);
        due("t above n", with(2, LOSING, 4, 4).fills(1), 1 + 2 + 1);

        about("FILLS, BLIND: by PINS; t may be more than there are");
        x = with(12, BLIND, 4, 4);
        due("no pin", x.fills(0), 1);
        due("three pins", x.fills(0b111), 8);
        due("all pins", x.fills(4095), 1 + 12 + 66 + 220 + 495);
        due("t 0", with(12, BLIND, 0, 4).fills(4095), 1);

        about("FILLS, ADDING: by PINS and the other places");
        x = with(12, ADDING, 4, 4);
        due("no pin", x.fills(0), 794);
        due("all pins", x.fills(4095), 794);
        due("six pins", x.fills(63), 57 * 57);
        due("t 0, a 0", with(12, ADDING, 0, 0).fills(63), 1);
        due("more than there are", with(2, ADDING, 4, 4).fills(1), 4);

        about("FILLS, TURNED: what both ends may be seen as counts once");
        x = with(12, TURNED, 4, 4);
        due("no pin", x.fills(0), 794);
        due("all pins", x.fills(4095), 794);
        due("ends without a place in common", x.fills(63), 57 * 57 + 57 * 57 - 50 * 50);
        due("turned the same", x.fills(0b110000000011), (1 + 4 + 6 + 4 + 1) * (1 + 8 + 28 + 56 + 70));
        due("t 0, a 0, turned the same", with(7, TURNED, 0, 0).fills(8), 1);
        due("t 0, a 0, another", with(7, TURNED, 0, 0).fills(1), 2);
        due("all that there are", with(2, TURNED, 4, 4).fills(1), 4);

        about("Promise 8: OUTSIDE");
        for (int n = 2; n <= 12; n++) {
            x = plain(n);
            for (int v : new int[] {-1, 1 << n, LOW, HIGH}) {
                due("m " + v + " of " + n, x.fills(v), OUTSIDE);
            }
            due("the greatest of " + n, x.fills((1 << n) - 1), 1);
        }
    }
}
