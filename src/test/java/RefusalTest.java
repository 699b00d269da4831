import java.util.function.ToLongFunction;

/** Which refusal comes first of several, and that a refused call changes nothing: for every call that refuses. */
public final class RefusalTest extends Bench {
    private static final String RULE = "pins 1 or pins 0 or in 1 or has 3 and pins 2";

    public static void main(String[] args) {
        RefusalTest test = new RefusalTest();
        test.island();
        test.lists();
        test.listsOfLists();
        test.rules();
        test.owners();
        test.rings();
        test.checks.end();
    }

    /** Five places; list 1 and 3 with a few marks, list 4 and 5 with none, and a text, a fault, a reading. */
    private static PodMarks some() {
        PodMarks x = with(5, TURNED, 1, 2);
        addAll(x, 1, 30, 7, 1);
        addAll(x, 3, 0, 31, 4, 12, 5, 6, 8);
        feedAll(x, "turns or x");
        x.read(2);
        x.look(0, 9);
        x.look(4, 3);
        feedAll(x, RULE);
        return x;
    }

    /** As some(), but twelve places, list 0 full, list 2 with five marks, and a text of 120 bytes. */
    private static PodMarks full() {
        PodMarks x = plain(12);
        addRow(x, 0, 0, 64);
        addAll(x, 1, 100, 200, 300);
        addAll(x, 2, 0, 1, 2, 3, 64);
        feedAll(x, "has 0 or pins 1 " + " ".repeat(104));
        x.look(11, 0);
        return x;
    }

    /** A twin that was not called shows what there would be without the call. */
    private void refused(String call, long want, PodMarks x, PodMarks twin, ToLongFunction<PodMarks> made) {
        due(call, made.applyAsLong(x), want);
        checks.holds(call + " changed something", stateOf(x).equals(stateOf(twin)));
        checks.holds(call + " changed the text", afterReading(x).equals(afterReading(twin)));
    }

    private static String afterReading(PodMarks x) {
        return x.read(5) + ": " + x.fault() + " " + x.mark(5, NONE) + " " + x.mark(5, 0) + " " + x.most(NONE, NONE);
    }

    private void ofSome(String call, long want, ToLongFunction<PodMarks> made) {
        refused(call, want, some(), some(), made);
    }

    private void ofFull(String call, long want, ToLongFunction<PodMarks> made) {
        refused(call, want, full(), full(), made);
    }

    private void island() {
        about("Promise 2: OUTSIDE");
        ofSome("places(1)", OUTSIDE, x -> x.places(1));
        ofSome("places(13)", OUTSIDE, x -> x.places(13));
        about("Promise 3: OUTSIDE");
        ofSome("island(4, 0, 0)", OUTSIDE, x -> x.island(4, 0, 0));
        ofSome("island(-1, 0, 0)", OUTSIDE, x -> x.island(-1, 0, 0));
        ofSome("island(0, 5, 0)", OUTSIDE, x -> x.island(0, 5, 0));
        ofSome("island(0, -1, 0)", OUTSIDE, x -> x.island(0, -1, 0));
        ofSome("island(0, 0, 5)", OUTSIDE, x -> x.island(0, 0, 5));
        ofSome("island(0, 0, -1)", OUTSIDE, x -> x.island(0, 0, -1));
        about("Promises 4 to 8: OUTSIDE");
        ofSome("is(4)", OUTSIDE, x -> x.is(4));
        ofSome("turned(32)", OUTSIDE, x -> x.turned(32));
        ofSome("may(32, 1, 1)", OUTSIDE, x -> x.may(32, 1, 1));
        ofSome("may(1, 1, 1)", OUTSIDE, x -> x.may(1, 1, 1));
        ofSome("between(32, 32, 2)", OUTSIDE, x -> x.between(32, 32, 2));
        ofSome("fills(32)", OUTSIDE, x -> x.fills(32));
    }

    private void lists() {
        about("Promise 9: UNKNOWN, OUTSIDE, NOT, FULL");
        ofFull("UNKNOWN ahead of OUTSIDE", UNKNOWN, x -> x.add(6, 4096));
        ofFull("UNKNOWN ahead of NOT and FULL", UNKNOWN, x -> x.add(-1, 5));
        ofFull("OUTSIDE ahead of FULL", OUTSIDE, x -> x.add(0, 4096));
        ofFull("NOT ahead of FULL", NOT, x -> x.add(0, 63));
        ofFull("NOT alone", NOT, x -> x.add(1, 200));
        ofFull("FULL", FULL, x -> x.add(0, 64));
        about("Promise 10: UNKNOWN");
        ofSome("a list that there is not", UNKNOWN, x -> x.drop(6, 0));
        ofSome("a mark that there is not", UNKNOWN, x -> x.drop(1, 3));
        ofSome("NONE", UNKNOWN, x -> x.drop(1, NONE));
        about("Promises 11, 12: UNKNOWN");
        ofSome("clear", UNKNOWN, x -> x.clear(6));
        ofSome("mark", UNKNOWN, x -> x.mark(-1, NONE));
        about("Promise 13: UNKNOWN, OUTSIDE");
        ofSome("UNKNOWN ahead of OUTSIDE", UNKNOWN, x -> x.good(6, 5));
        ofSome("OUTSIDE", OUTSIDE, x -> x.good(1, 5));
        about("Promise 14: UNKNOWN, OUTSIDE");
        ofSome("UNKNOWN ahead of OUTSIDE", UNKNOWN, x -> x.build(6, 4096, 65));
        ofSome("seed", OUTSIDE, x -> x.build(4, 4096, 64));
        ofSome("many", OUTSIDE, x -> x.build(4, 0, 65));
        ofSome("many below 0", OUTSIDE, x -> x.build(4, 0, -1));
        ofFull("OUTSIDE though it is full", OUTSIDE, x -> x.build(0, 0, 65));
        about("Promise 15: OUTSIDE, LARGE");
        ofFull("OUTSIDE ahead of LARGE", OUTSIDE, x -> x.most(6, 0));
        ofFull("LARGE", LARGE, x -> x.most(5, 0));
        ofSome("OUTSIDE", OUTSIDE, x -> x.most(-2, 0));
    }

    private void listsOfLists() {
        about("Promise 17: UNKNOWN, OUTSIDE, FULL");
        ofFull("UNKNOWN (to) ahead of OUTSIDE", UNKNOWN, x -> x.lay(6, 0, 1, 0));
        ofFull("UNKNOWN (a) ahead of OUTSIDE", UNKNOWN, x -> x.lay(3, 6, 1, 12));
        ofFull("UNKNOWN (b) ahead of OUTSIDE", UNKNOWN, x -> x.lay(3, 0, -1, 12));
        ofFull("UNKNOWN (to) ahead of FULL", UNKNOWN, x -> x.lay(6, 0, 1, 6));
        ofFull("OUTSIDE ahead of FULL, 0", OUTSIDE, x -> x.lay(3, 0, 1, 0));
        ofFull("OUTSIDE ahead of FULL, n", OUTSIDE, x -> x.lay(3, 0, 1, 12));
        ofFull("FULL, to is empty", FULL, x -> x.lay(3, 0, 1, 6));
        ofFull("FULL, to is a", FULL, x -> x.lay(0, 0, 1, 6));
        ofFull("FULL, to is b", FULL, x -> x.lay(1, 0, 1, 6));
        about("Promise 18: UNKNOWN, FULL");
        ofFull("UNKNOWN (to) ahead of FULL", UNKNOWN, x -> x.join(6, 0, 1));
        ofFull("UNKNOWN (a)", UNKNOWN, x -> x.join(3, 6, 1));
        ofFull("UNKNOWN (b)", UNKNOWN, x -> x.join(3, 1, 6));
        ofFull("FULL, to is empty", FULL, x -> x.join(3, 0, 2));
        ofFull("FULL, to is a", FULL, x -> x.join(0, 0, 2));
        ofFull("FULL, to is b", FULL, x -> x.join(2, 0, 2));
        ofFull("FULL, a is the lesser", FULL, x -> x.join(0, 2, 0));
        about("Promise 19: UNKNOWN, OUTSIDE");
        ofSome("UNKNOWN (to) ahead of OUTSIDE", UNKNOWN, x -> x.shorten(6, 1, 5));
        ofSome("UNKNOWN (a) ahead of OUTSIDE", UNKNOWN, x -> x.shorten(1, 6, -1));
        ofSome("OUTSIDE, n", OUTSIDE, x -> x.shorten(1, 3, 5));
        ofSome("OUTSIDE, below 0", OUTSIDE, x -> x.shorten(1, 3, -1));
        about("Promise 20: UNKNOWN");
        ofSome("to", UNKNOWN, x -> x.turn(6, 1));
        ofSome("a", UNKNOWN, x -> x.turn(1, 6));
        about("Promise 21: UNKNOWN, OUTSIDE");
        ofSome("UNKNOWN (to) ahead of OUTSIDE", UNKNOWN, x -> x.even(-1, 1, 5));
        ofSome("UNKNOWN (a) ahead of OUTSIDE", UNKNOWN, x -> x.even(1, -1, 5));
        ofSome("OUTSIDE, n", OUTSIDE, x -> x.even(1, 3, 5));
        ofSome("OUTSIDE, below 0", OUTSIDE, x -> x.even(1, 3, -1));
    }

    private void rules() {
        about("Promise 22: OUTSIDE, FULL");
        ofFull("OUTSIDE ahead of FULL, 9", OUTSIDE, x -> x.feed(9, 0L));
        ofFull("OUTSIDE ahead of FULL, 0", OUTSIDE, x -> x.feed(0, 0L));
        ofFull("FULL by one", FULL, x -> x.feed(1, 'x'));
        ofFull("FULL by eight", FULL, x -> x.feed(8, -1L));
        ofSome("OUTSIDE", OUTSIDE, x -> x.feed(-1, 'x'));
        about("Promise 23: UNKNOWN, LARGE");
        ofFull("UNKNOWN ahead of LARGE", UNKNOWN, x -> x.read(6));
        ofSome("UNKNOWN", UNKNOWN, x -> x.read(-1));
        PodMarks large = full();
        due("LARGE", large.read(1), LARGE);
        holds("LARGE: the list is as it was", large, 1, 100, 200, 300);
        due("LARGE: all lists are", large.count(0), 64 + 3 + 5);
        about("Promise 25: OUTSIDE");
        ofSome("count", OUTSIDE, x -> x.count(3));
    }

    private void owners() {
        about("Promise 26: UNKNOWN, OUTSIDE");
        ofSome("UNKNOWN ahead of OUTSIDE", UNKNOWN, x -> x.owner(6, 32, 1, NONE));
        ofSome("OUTSIDE ahead of NONE", OUTSIDE, x -> x.owner(5, 32, 0, 9));
        ofSome("OUTSIDE, one in common", OUTSIDE, x -> x.owner(1, 3, 2, NONE));
        about("Promise 27: OUTSIDE");
        ofSome("place", OUTSIDE, x -> x.look(5, 1));
        ofSome("place below 0", OUTSIDE, x -> x.look(-1, 1));
        ofSome("v above 9", OUTSIDE, x -> x.look(0, 10));
        ofSome("v below NONE", OUTSIDE, x -> x.look(0, -2));
        about("Promises 28, 29: UNKNOWN");
        ofSome("chance of no list", UNKNOWN, x -> x.chance(6, 0));
        ofSome("chance of no mark", UNKNOWN, x -> x.chance(1, 3));
        ofSome("likely", UNKNOWN, x -> x.likely(6, NONE));
    }

    private void rings() {
        about("Promise 30: UNKNOWN, OUTSIDE");
        ofSome("UNKNOWN ahead of OUTSIDE", UNKNOWN, x -> x.heap(6, 32, 4, 4));
        ofSome("OUTSIDE, s", OUTSIDE, x -> x.heap(1, 32, 1, 0));
        ofSome("OUTSIDE, h", OUTSIDE, x -> x.heap(1, 1, 4, 0));
        ofSome("OUTSIDE, what", OUTSIDE, x -> x.heap(1, 1, 1, 4));
        about("Promise 31: UNKNOWN, OUTSIDE");
        ofSome("UNKNOWN (list) ahead of OUTSIDE", UNKNOWN, x -> x.make(6, 0, 0, 0, 32));
        ofSome("UNKNOWN (i) ahead of OUTSIDE", UNKNOWN, x -> x.make(1, 3, 0, 0, 32));
        ofSome("UNKNOWN (j) ahead of OUTSIDE", UNKNOWN, x -> x.make(1, 0, 3, 0, 32));
        ofSome("UNKNOWN (k) ahead of OUTSIDE", UNKNOWN, x -> x.make(1, 0, 0, 3, 32));
        ofSome("OUTSIDE", OUTSIDE, x -> x.make(1, 0, 1, 2, 32));
        about("Promise 32: UNKNOWN, OUTSIDE");
        ofSome("UNKNOWN ahead of OUTSIDE", UNKNOWN, x -> x.trace(6, 32, 4, 3));
        ofSome("OUTSIDE, s", OUTSIDE, x -> x.trace(1, -1, 1, 0));
        ofSome("OUTSIDE, h", OUTSIDE, x -> x.trace(1, 1, 0, 0));
        ofSome("OUTSIDE, what", OUTSIDE, x -> x.trace(1, 1, 1, 3));
        about("Promise 33: UNKNOWN, OUTSIDE");
        ofSome("UNKNOWN ahead of OUTSIDE", UNKNOWN, x -> x.inAll(6, 32, 4, 0));
        ofSome("OUTSIDE ahead of NONE, s", OUTSIDE, x -> x.inAll(1, 32, 1, 9));
        ofSome("OUTSIDE ahead of NONE, h", OUTSIDE, x -> x.inAll(1, 1, 4, 9));
        about("Promise 34: UNKNOWN, OUTSIDE");
        ofSome("UNKNOWN ahead of OUTSIDE", UNKNOWN, x -> x.framed(6, 4));
        ofSome("OUTSIDE", OUTSIDE, x -> x.framed(1, 4));
    }
}
