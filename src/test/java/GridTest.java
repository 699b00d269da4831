import java.util.Set;

/** Every call with every mix of numbers at, beside and far beyond their bounds, in several states, held against the model. */
public final class GridTest {
    private static final int LOW = Integer.MIN_VALUE, HIGH = Integer.MAX_VALUE;
    private static final int STATES = 5;
    private static final int CALLS_OF_AN_OBJECT = 90;
    /** Each of these changes so much that it is called on an object of its own. */
    private static final Set<String> CALLED_ALONE = Set.of("places", "read", "clear", "build", "lay", "feed");

    /** A letter for each number of the call: what it is, and so which values it takes. */
    private static final String[] CALLS = {
        "places n", "island ktt", "is w", "turned s", "may sss", "between ssw", "fills s", "add ls", "drop li", "clear l",
        "mark li", "good lw", "build ldm", "most ti", "bound", "lay lllp", "join lll", "shorten llp", "turn ll", "even llp",
        "feed bx", "read l", "fault", "count w", "owner lssi", "look pv", "chance li", "likely li", "heap lshw", "make liiis",
        "trace lshw", "inAll lshi", "framed lh",
    };

    private final Checks checks = new Checks();
    private PodMarks x;
    private Model y;

    public static void main(String[] args) {
        GridTest test = new GridTest();
        for (int state = 0; state < STATES; state++) {
            for (int which = 0; which < CALLS.length; which++) {
                test.goThrough(state, which);
            }
        }
        test.checks.end();
    }

    // ---- states

    private void prepare(int state) {
        x = new PodMarks();
        y = new Model();
        switch (state) {
            case 0: break;
            case 1: of(2, 3, 4, 4, 4, "turns or pins 1"); break;
            case 2: of(5, 2, 1, 1, 20, "not in 5"); break;
            case 3: of(12, 1, 1, 0, 64, "turns or in 0"); break;
            default: of(7, 0, 2, 0, 63, "pins 3 or (in 1 and not has 0"); break;
        }
    }

    /** Lists 0 and 5 have the first so many marks, list 1 has two. */
    private void of(int n, int kind, int t, int a, int many, String rule) {
        x.places(n);
        y.places(n);
        x.island(0, 0, 0);
        for (int list = 0; list <= 5; list += 5) {
            x.build(list, 0, many);
            for (int m = 0; m < many; m++) y.add(list, m);
        }
        x.add(1, (1 << n) - 1);
        y.add(1, (1 << n) - 1);
        x.add(1, 1);
        y.add(1, 1);
        x.island(kind, t, a);
        y.island(kind, t, a);
        Bench.feedAll(x, rule);
        y.text.append(rule);
        x.look(0, 8);
        y.look(0, 8);
        x.look(n - 1, 4);
        y.look(n - 1, 4);
    }

    // ---- values

    private int[] values(char what) {
        int all = (1 << y.n) - 1;
        switch (what) {
            case 'n': return new int[] {LOW, -1, 0, 1, 2, 3, 7, 11, 12, 13, HIGH};
            case 'k': return new int[] {LOW, -1, 0, 1, 2, 3, 4, HIGH};
            case 't': return new int[] {LOW, -2, -1, 0, 2, 4, 5, 6, HIGH};
            case 'w': return new int[] {LOW, -2, -1, 0, 1, 2, 3, 4, 5, HIGH};
            case 's': return new int[] {LOW, -1, 0, 1, all - 1, all, all + 1, HIGH};
            case 'l': return new int[] {LOW, -1, 0, 1, 4, 5, 6, HIGH};
            case 'i': return new int[] {LOW, -2, -1, 0, 1, 2, 62, 63, 64, HIGH};
            case 'd': return new int[] {LOW, -1, 0, 1, 4095, 4096, HIGH};
            case 'm': return new int[] {LOW, -1, 0, 1, 5, 64, 65, HIGH};
            case 'p': return new int[] {LOW, -1, 0, 1, y.n - 1, y.n, 12, HIGH};
            case 'b': return new int[] {LOW, -1, 0, 1, 7, 8, 9, HIGH};
            case 'x': return new int[] {LOW, -1, 0, 32, 'x', HIGH};
            case 'v': return new int[] {LOW, -2, -1, 0, 9, 10, HIGH};
            default: return new int[] {LOW, -1, 0, 1, 2, 3, 4, HIGH};
        }
    }

    private void goThrough(int state, int which) {
        prepare(state);
        int space = CALLS[which].indexOf(' ');
        String kinds = space < 0 ? "" : CALLS[which].substring(space + 1);
        int[][] values = new int[kinds.length()][];
        int mixes = 1;
        for (int k = 0; k < values.length; k++) {
            values[k] = values(kinds.charAt(k));
            mixes *= values[k].length;
        }
        boolean alone = CALLED_ALONE.contains(CALLS[which].split(" ")[0]);
        int[] v = new int[5];
        for (int mix = 0; mix < mixes; mix++) {
            if (alone || mix % CALLS_OF_AN_OBJECT == 0) prepare(state);
            int rest = mix;
            StringBuilder call = new StringBuilder("state " + state + ": " + CALLS[which] + ":");
            for (int k = 0; k < values.length; k++) {
                v[k] = values[k][rest % values[k].length];
                rest /= values[k].length;
                call.append(' ').append(v[k]);
            }
            checks.due(call.toString(), ofProgram(which, v), ofModel(which, v));
            if (alone) same(call.toString());
        }
        same("state " + state + ": after " + CALLS[which]);
    }

    private void same(String call) {
        for (int what = 0; what <= 2; what++) checks.due(call + ", count(" + what + ")", x.count(what), y.count(what));
        checks.due(call + ", n", x.is(0), y.is(0));
        checks.due(call + ", fault()", x.fault(), y.fault());
        for (int list = 0; list < 6; list++) {
            int many = y.mark(list, -1);
            checks.due(call + ", size of " + list, x.mark(list, -1), many);
            for (int i = 0; i < many; i++) checks.due(call + ", mark " + i + " of " + list, x.mark(list, i), y.mark(list, i));
        }
    }

    // ---- calls

    private long ofProgram(int which, int[] v) {
        switch (which) {
            case 0: return x.places(v[0]);
            case 1: return x.island(v[0], v[1], v[2]);
            case 2: return x.is(v[0]);
            case 3: return x.turned(v[0]);
            case 4: return x.may(v[0], v[1], v[2]);
            case 5: return x.between(v[0], v[1], v[2]);
            case 6: return x.fills(v[0]);
            case 7: return x.add(v[0], v[1]);
            case 8: return x.drop(v[0], v[1]);
            case 9: return x.clear(v[0]);
            case 10: return x.mark(v[0], v[1]);
            case 11: return x.good(v[0], v[1]);
            case 12: return x.build(v[0], v[1], v[2]);
            case 13: return x.most(v[0], v[1]);
            case 14: return x.bound();
            case 15: return x.lay(v[0], v[1], v[2], v[3]);
            case 16: return x.join(v[0], v[1], v[2]);
            case 17: return x.shorten(v[0], v[1], v[2]);
            case 18: return x.turn(v[0], v[1]);
            case 19: return x.even(v[0], v[1], v[2]);
            case 20: return x.feed(v[0], v[1]);
            case 21: return x.read(v[0]);
            case 22: return x.fault();
            case 23: return x.count(v[0]);
            case 24: return x.owner(v[0], v[1], v[2], v[3]);
            case 25: return x.look(v[0], v[1]);
            case 26: return x.chance(v[0], v[1]);
            case 27: return x.likely(v[0], v[1]);
            case 28: return x.heap(v[0], v[1], v[2], v[3]);
            case 29: return x.make(v[0], v[1], v[2], v[3], v[4]);
            case 30: return x.trace(v[0], v[1], v[2], v[3]);
            case 31: return x.inAll(v[0], v[1], v[2], v[3]);
            default: return x.framed(v[0], v[1]);
        }
    }

    private long ofModel(int which, int[] v) {
        switch (which) {
            case 0: return y.places(v[0]);
            case 1: return y.island(v[0], v[1], v[2]);
            case 2: return y.is(v[0]);
            case 3: return y.turned(v[0]);
            case 4: return y.may(v[0], v[1], v[2]);
            case 5: return y.between(v[0], v[1], v[2]);
            case 6: return y.fills(v[0]);
            case 7: return y.add(v[0], v[1]);
            case 8: return y.drop(v[0], v[1]);
            case 9: return y.clear(v[0]);
            case 10: return y.mark(v[0], v[1]);
            case 11: return y.good(v[0], v[1]);
            case 12: return y.build(v[0], v[1], v[2]);
            case 13: return y.most(v[0], v[1]);
            case 14: return y.bound();
            case 15: return y.lay(v[0], v[1], v[2], v[3]);
            case 16: return y.join(v[0], v[1], v[2]);
            case 17: return y.shorten(v[0], v[1], v[2]);
            case 18: return y.turn(v[0], v[1]);
            case 19: return y.even(v[0], v[1], v[2]);
            case 20: return y.feed(v[0], v[1]);
            case 21: return y.read(v[0]);
            case 22: return y.fault();
            case 23: return y.count(v[0]);
            case 24: return y.owner(v[0], v[1], v[2], v[3]);
            case 25: return y.look(v[0], v[1]);
            case 26: return y.chance(v[0], v[1]);
            case 27: return y.likely(v[0], v[1]);
            case 28: return y.heap(v[0], v[1], v[2], v[3]);
            case 29: return y.make(v[0], v[1], v[2], v[3], v[4]);
            case 30: return y.trace(v[0], v[1], v[2], v[3]);
            case 31: return y.inAll(v[0], v[1], v[2], v[3]);
            default: return y.framed(v[0], v[1]);
        }
    }
}
