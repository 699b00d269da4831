import java.util.ArrayDeque;
import java.util.BitSet;
import java.util.Deque;
import java.util.function.IntPredicate;

/** A rule read by two states (a test is awaited, a joint is awaited) over stacks, not by descent as the program does. */
final class ModelRule {
    int fault = 0;
    int faultAt = Model.NONE;

    private final String s;
    private final Model model;
    private int at = 0;
    private final Deque<BitSet> values = new ArrayDeque<>();
    private final Deque<String> joints = new ArrayDeque<>();

    ModelRule(String s, Model model) {
        this.s = s;
        this.model = model;
    }

    BitSet marks() {
        boolean awaitsTest = true;
        int open = 0;
        while (fault == 0) {
            skip();
            int start = at;
            String token = token();
            if (awaitsTest) {
                if (token.equals("not")) {
                    joints.push("not");
                } else if (token.equals("(")) {
                    if (open == 4) return failed(3, start);
                    open++;
                    joints.push("(");
                } else {
                    test(token, start);
                    awaitsTest = false;
                }
            } else if (token.equals("and") || token.equals("or")) {
                settle(token.equals("and") ? "not and" : "not and or");
                joints.push(token);
                awaitsTest = true;
            } else if (token.equals(")") && open > 0) {
                settle("not and or");
                joints.pop();
                open--;
            } else if (token.isEmpty() && open == 0) {
                settle("not and or");
                return values.pop();
            } else {
                return failed(1, start);
            }
        }
        return null;
    }

    private BitSet failed(int kind, int where) {
        if (fault == 0) {
            fault = kind;
            faultAt = where;
        }
        return null;
    }

    private void settle(String which) {
        while (!joints.isEmpty() && !joints.peek().equals("(") && which.contains(joints.peek())) {
            String joint = joints.pop();
            BitSet last = (BitSet) values.pop().clone();
            if (joint.equals("not")) {
                last.flip(0, 1 << model.n);
            } else if (joint.equals("and")) {
                last.and(values.pop());
            } else {
                last.or(values.pop());
            }
            values.push(last);
        }
    }

    private void skip() {
        while (at < s.length() && s.charAt(at) == ' ') at++;
    }

    private String token() {
        if (at == s.length()) return "";
        int start = at++;
        for (String signs : new String[] {"abcdefghijklmnopqrstuvwxyz", "0123456789"}) {
            if (signs.indexOf(s.charAt(start)) >= 0) {
                while (at < s.length() && signs.indexOf(s.charAt(at)) >= 0) at++;
            }
        }
        return s.substring(start, at);
    }

    private int number(int least, int greatest) {
        skip();
        int start = at;
        String token = token();
        if (token.isEmpty() || token.charAt(0) < '0' || token.charAt(0) > '9') {
            failed(1, start);
            return least;
        }
        if (token.length() > 2 || Integer.parseInt(token) < least || Integer.parseInt(token) > greatest) {
            failed(2, start);
            return least;
        }
        return Integer.parseInt(token);
    }

    private void test(String word, int start) {
        switch (word) {
            case "pins": {
                int w = number(0, 12);
                all(m -> Integer.bitCount(m) == w);
                break;
            }
            case "has": {
                int p = number(0, 11);
                all(m -> (m >> p & 1) == 1);
                break;
            }
            case "runs": {
                int w = number(0, 12);
                all(m -> runs(m) == w);
                break;
            }
            case "turns":
                all(m -> model.back(m) == m);
                break;
            case "in": {
                int l = number(0, 5);
                all(m -> model.lists.get(l).contains(m));
                break;
            }
            case "sum":
                sum();
                break;
            default:
                failed(1, start);
        }
    }

    private void sum() {
        int left = number(0, 98);
        if (fault != 0) return;
        skip();
        int start = at;
        if (!token().equals("of")) {
            failed(1, start);
            return;
        }
        int by = number(1, 99);
        all(m -> {
            int sum = 0;
            for (int p = 0; p < 12; p++) sum += (m >> p & 1) == 1 ? p + 1 : 0;
            return sum % by == left;
        });
    }

    private static int runs(int m) {
        int many = 0;
        boolean before = false;
        for (int p = 0; p < 12; p++) {
            boolean now = (m >> p & 1) == 1;
            if (now && !before) many++;
            before = now;
        }
        return many;
    }

    private void all(IntPredicate test) {
        BitSet those = new BitSet();
        for (int m = 0; m < 1 << model.n; m++) {
            if (test.test(m)) those.set(m);
        }
        values.push(those);
    }
}
