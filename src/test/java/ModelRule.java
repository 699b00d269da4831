import java.util.BitSet;
import java.util.function.IntPredicate;

/** A rule read by descent to sets of marks, not over levels of brackets to steps as the program does. */
final class ModelRule {
    int fault = 0;
    int faultAt = Model.NONE;

    private final String s;
    private final Model model;
    private int start = 0;
    private String token = "";
    private int open = 0;

    ModelRule(String s, Model model) {
        this.s = s;
        this.model = model;
    }

    /** A fault ends the descent at once. */
    private static final class Fault extends RuntimeException {
        private static final long serialVersionUID = 1L;
        final int kind;

        Fault(int kind) {
            this.kind = kind;
        }
    }

    /** All marks that are so; null: there is a fault. */
    BitSet marks() {
        try {
            next(0);
            BitSet all = rule();
            if (!token.isEmpty()) throw new Fault(1);
            return all;
        } catch (Fault f) {
            fault = f.kind;
            faultAt = start;
            return null;
        }
    }

    private void next(int from) {
        start = from;
        while (start < s.length() && s.charAt(start) == ' ') start++;
        int end = Math.min(start + 1, s.length());
        for (String signs : new String[] {"abcdefghijklmnopqrstuvwxyz", "0123456789"}) {
            if (start < s.length() && signs.indexOf(s.charAt(start)) >= 0) {
                while (end < s.length() && signs.indexOf(s.charAt(end)) >= 0) end++;
            }
        }
        token = s.substring(start, end);
    }

    private boolean comes(String what) {
        if (!token.equals(what)) return false;
        next(start + token.length());
        return true;
    }

    private BitSet rule() {
        BitSet all = part();
        while (comes("or")) all.or(part());
        return all;
    }

    private BitSet part() {
        BitSet all = one();
        while (comes("and")) all.and(one());
        return all;
    }

    private BitSet one() {
        if (comes("not")) {
            BitSet others = one();
            others.flip(0, 1 << model.n);
            return others;
        }
        if (token.equals("(")) return bracket();
        if (comes("turns")) return all(m -> model.back(m) == m);
        if (comes("sum")) return sum();
        if (comes("pins")) {
            int w = number(0, 12);
            return all(m -> Integer.bitCount(m) == w);
        }
        if (comes("has")) {
            int p = number(0, 11);
            return all(m -> (m >> p & 1) == 1);
        }
        if (comes("runs")) {
            int w = number(0, 12);
            return all(m -> runs(m) == w);
        }
        if (comes("in")) {
            int l = number(0, 5);
            return all(m -> model.lists.get(l).contains(m));
        }
        throw new Fault(1);
    }

    private BitSet bracket() {
        if (open == 4) throw new Fault(3);
        open++;
        comes("(");
        BitSet all = rule();
        if (!comes(")")) throw new Fault(1);
        open--;
        return all;
    }

    private BitSet sum() {
        int left = number(0, 98);
        if (!comes("of")) throw new Fault(1);
        int by = number(1, 99);
        return all(m -> {
            int sum = 0;
            for (int p = 0; p < 12; p++) sum += (m >> p & 1) == 1 ? p + 1 : 0;
            return sum % by == left;
        });
    }

    private int number(int least, int greatest) {
        if (token.isEmpty() || token.charAt(0) < '0' || token.charAt(0) > '9') throw new Fault(1);
        if (token.length() > 2 || Integer.parseInt(token) < least || Integer.parseInt(token) > greatest) throw new Fault(2);
        int v = Integer.parseInt(token);
        next(start + token.length());
        return v;
    }

    private static int runs(int m) {
        int many = 0;
        boolean before = false;
        for (int p = 0; p < 12; p++) {
            boolean now = (m >> p & 1) == 1;
            if (now && !before) many++;
            before = now;
        }
        return many;
    }

    private BitSet all(IntPredicate test) {
        BitSet those = new BitSet();
        for (int m = 0; m < 1 << model.n; m++) {
            if (test.test(m)) those.set(m);
        }
        return those;
    }
}
