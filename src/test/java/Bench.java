import java.nio.charset.StandardCharsets;

/** What the tests by hand-worked answers share: names of numbers, objects made ready, and looks at what they hold. */
class Bench {
    static final int NONE = -1, UNKNOWN = -1001, OUTSIDE = -1002, NOT = -1003, FULL = -1004, LARGE = -1005;
    static final int LOW = Integer.MIN_VALUE, HIGH = Integer.MAX_VALUE;
    static final int LOSING = 0, BLIND = 1, ADDING = 2, TURNED = 3;
    static final int[] NO_LISTS = {-1, 6, LOW, HIGH};

    final Checks checks = new Checks();

    final void about(String sentence) {
        checks.about(sentence);
    }

    final void due(String what, long got, long want) {
        checks.due(what, got, want);
    }

    static PodMarks with(int n, int kind, int t, int a) {
        PodMarks x = new PodMarks();
        x.places(n);
        x.island(kind, t, a);
        return x;
    }

    /** Nothing is lost, unseen or added: any two marks can be told apart. */
    static PodMarks plain(int n) {
        return with(n, LOSING, 0, 0);
    }

    static void addAll(PodMarks x, int list, int... marks) {
        for (int m : marks) {
            x.add(list, m);
        }
    }

    /** The marks from, from + 1 and so on, many of them. */
    static void addRow(PodMarks x, int list, int from, int many) {
        for (int k = 0; k < many; k++) {
            x.add(list, from + k);
        }
    }

    final void holds(String what, PodMarks x, int list, int... marks) {
        due(what + ": how many", x.mark(list, NONE), marks.length);
        for (int i = 0; i < marks.length; i++) {
            due(what + ": mark " + i, x.mark(list, i), marks[i]);
        }
    }

    static int feedAll(PodMarks x, String s) {
        byte[] bytes = s.getBytes(StandardCharsets.ISO_8859_1);
        int answer = 0;
        for (int from = 0; from < bytes.length; from += 8) {
            int n = Math.min(8, bytes.length - from);
            long packed = 0;
            for (int k = 0; k < n; k++) {
                packed = packed << 8 | bytes[from + k] & 255;
            }
            answer = x.feed(n, packed);
        }
        return answer;
    }

    static int readRule(PodMarks x, int to, String rule) {
        feedAll(x, rule);
        return x.read(to);
    }

    /** All that can be looked at without a change; the reading is put back. */
    static String stateOf(PodMarks x) {
        StringBuilder all = new StringBuilder();
        for (int what = 0; what < 4; what++) {
            all.append(x.is(what)).append(' ');
        }
        for (int list = 0; list < 6; list++) {
            int many = x.mark(list, NONE);
            all.append("| ");
            for (int i = 0; i < many; i++) {
                all.append(x.mark(list, i)).append(' ');
            }
        }
        all.append("| ");
        for (int p = 0; p < x.is(0); p++) {
            int v = x.look(p, NONE);
            x.look(p, v);
            all.append(v).append(' ');
        }
        return all.append("| ").append(x.count(1)).append(' ').append(x.fault()).toString();
    }
}
