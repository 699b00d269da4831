/** Terms 3 and promises 22 to 25: each sentence that names an edge has a test of its own. */
public final class EdgeRuleTest extends Bench {
    private static final int BYTES = 120;

    public static void main(String[] args) {
        EdgeRuleTest test = new EdgeRuleTest();
        test.feeding();
        test.bounds();
        test.meanings();
        test.grammar();
        test.numbersAndWords();
        test.blanks();
        test.faults();
        test.brackets();
        test.reading();
        test.latestFault();
        test.counting();
        test.checks.end();
    }

    private void reads(int n, String rule, int... marks) {
        reads(plain(n), rule, marks);
    }

    private void reads(PodMarks x, String rule, int... marks) {
        due("'" + rule + "'", readRule(x, 5, rule), marks.length);
        holds("'" + rule + "'", x, 5, marks);
        due("'" + rule + "' has no fault", x.fault(), NONE);
    }

    private void faulty(String rule, int fault, int at) {
        PodMarks x = new PodMarks();
        x.add(5, 77);
        due("'" + rule + "'", readRule(x, 5, rule), -10 - fault);
        due("'" + rule + "', its byte", x.fault(), at);
        due("'" + rule + "', the list", x.mark(5, 0), 77);
        due("'" + rule + "', the text", x.count(1), 0);
    }

    private static String blanks(int many) {
        return " ".repeat(many);
    }

    // ---- the text

    private void feeding() {
        about("Promise 22: n 1 .. 8; OUTSIDE");
        PodMarks x = new PodMarks();
        int had = 0;
        for (int n = 1; n <= 8; n++) {
            had += n;
            due("n " + n, x.feed(n, 0L), had);
        }
        for (int n : new int[] {0, 9, -1, LOW, HIGH}) {
            due("n " + n, x.feed(n, 0L), OUTSIDE);
        }
        due("nothing came", x.count(1), 36);

        about("Promise 22: of a long, the highest of these first");
        x = plain(3);
        due("'pins 1xx' but for the rest above", x.feed(6, 0x787870696e732031L), 6);
        due("read", x.read(0), 3);
        due("the first of eight is the highest", x.feed(8, 0x70696e7320202032L), 8);
        due("read", x.read(0), 3);
        due("the mark", x.mark(0, 0), 3);

        about("Promise 22: bytes above 127");
        x = plain(3);
        due("eight of them", x.feed(8, -1L), 8);
        due("read", x.read(0), -11);
        due("its byte", x.fault(), 0);
        due("above one byte all is left out", x.feed(1, 0xffffffffffffff20L), 1);
        due("it is a blank", readRule(x, 0, "pins 1"), 3);

        about("Promise 22: they come behind THE TEXT");
        x = plain(3);
        due("'p'", x.feed(1, 'p'), 1);
        due("'ins'", x.feed(3, 0x696e73L), 4);
        due("'1'", x.feed(1, '1'), 5);
        due("read", x.read(0), 3);

        about("Terms 3: 120 bytes at most; promise 22: FULL");
        x = plain(3);
        due("120", feedAll(x, "pins 1" + blanks(BYTES - 6)), BYTES);
        for (int n = 1; n <= 8; n++) {
            due("n " + n, x.feed(n, 0x7878787878787878L), FULL);
        }
        due("120 stay", x.count(1), BYTES);
        due("as they were", x.read(0), 3);
        due("there is room again", x.feed(8, 0L), 8);

        about("Promise 22: FULL: not one of them comes");
        x = plain(3);
        feedAll(x, "pins 1" + blanks(BYTES - 13));
        due("113 and 8", x.feed(8, 0x2020202020202078L), FULL);
        due("113 stay", x.count(1), 113);
        due("113 and 7", x.feed(7, 0x20202020202020L), BYTES);
        due("read", x.read(0), 3);

        about("Promise 22: OUTSIDE ahead of FULL");
        x = new PodMarks();
        feedAll(x, blanks(BYTES));
        due("n 0", x.feed(0, 0L), OUTSIDE);
        due("n 9", x.feed(9, 0L), OUTSIDE);

        about("Terms 3: a RULE may have 120 bytes");
        String longest = "turns" + " or turns".repeat(11) + " or in 0".repeat(2);
        checks.holds("it has 120", longest.length() == BYTES);
        reads(3, longest, 0, 2, 5, 7);
        faulty("x" + blanks(BYTES - 1), 1, 0);
        faulty(blanks(BYTES - 1) + "x", 1, BYTES - 1);
        faulty(blanks(BYTES - 5) + "turn ", 1, BYTES - 5);
        faulty("not ".repeat(30), 1, BYTES);
        faulty("turns or ".repeat(13) + "in6", 2, BYTES - 1);
    }

    // ---- bounds of numbers

    private void bounds() {
        about("Terms 3: pins W 0 .. 12");
        reads(12, "pins 0", 0);
        reads(12, "pins 12", 4095);
        reads(4, "pins 12");
        faulty("pins 13", 2, 5);
        faulty("pins 99", 2, 5);

        about("Terms 3: runs W 0 .. 12");
        reads(12, "runs 0", 0);
        reads(12, "runs 12");
        faulty("runs 13", 2, 5);
        faulty("runs 99", 2, 5);

        about("Terms 3: sum R 0 .. 98");
        reads(12, "sum 0 of 99", 0);
        reads(12, "sum 98 of 99");
        faulty("sum 99 of 99", 2, 4);

        about("Terms 3: of M 1 .. 99");
        reads(2, "sum 0 of 1", 0, 1, 2, 3);
        reads(2, "sum 1 of 1");
        reads(2, "sum 3 of 99", 3);
        faulty("sum 0 of 0", 2, 9);
        faulty("sum 0 of 00", 2, 9);
        faulty("sum 0 of 100", 2, 9);

        about("Terms 3: has P 0 .. 11");
        reads(12, "has 0 and pins 1", 1);
        reads(12, "has 11 and pins 1", 2048);
        faulty("has 12", 2, 4);
        faulty("has 99", 2, 4);

        about("Terms 3: has P, a place that there is not: no PIN is there");
        reads(2, "has 2");
        reads(2, "has 11");
        reads(2, "not has 2", 0, 1, 2, 3);

        about("Terms 3: in L, a LIST 0 .. 5");
        PodMarks x = plain(4);
        x.add(0, 9);
        x.add(5, 6);
        due("in 0", readRule(x, 1, "in 0"), 1);
        due("its mark", x.mark(1, 0), 9);
        due("in 5", readRule(x, 1, "in 5"), 1);
        due("its mark", x.mark(1, 0), 6);
        due("in an empty one", readRule(x, 1, "in 4"), 0);
        faulty("in 6", 2, 3);
        faulty("in 99", 2, 3);
    }

    // ---- what the tests of a mark mean at their edges

    private void meanings() {
        about("sum: the sum of (place and 1) of its PINS");
        reads(12, "sum 1 of 99 and pins 1", 1);
        reads(12, "sum 12 of 99 and pins 1", 2048);
        reads(12, "sum 78 of 99", 4095);
        reads(12, "sum 0 of 78", 0, 4095);
        reads(12, "sum 0 of 79", 0);

        about("sum: leaves R by M: never M or more");
        reads(4, "sum 4 of 4");
        reads(4, "sum 5 of 4");
        reads(4, "sum 3 of 4 and pins 1", 4);

        about("runs: rows side by side; the two ends are not side by side");
        reads(4, "runs 2", 5, 9, 10, 11, 13);
        reads(4, "runs 1 and has 0 and has 3", 15);
        reads(12, "runs 6 and not has 11", 0b010101010101);
        due("6 of 12 places", readRule(plain(12), 0, "runs 6"), 13);
        reads(12, "runs 7");
        reads(2, "runs 1", 1, 2, 3);

        about("turns: TURNED it is the same, by the n that there is");
        reads(2, "turns", 0, 3);
        reads(3, "turns", 0, 2, 5, 7);
        reads(5, "turns and pins 3", 0b01110, 0b10101);

        about("in: LIST L has it (as it is then): the LIST that is read to");
        PodMarks x = plain(4);
        addAll(x, 5, 9, 3, 0);
        reads(x, "in 5", 0, 3, 9);
        reads(x, "in 5 and not pins 0 or pins 4", 3, 9, 15);
        reads(x, "pins 1 and not in 5", 1, 2, 4, 8);
        reads(x, "pins 1 and not in 5");

        about("in: LIST L has it (as it is then): when it is read, not when it is fed");
        PodMarks y = plain(4);
        y.add(0, 7);
        feedAll(y, "in 0");
        y.add(0, 2);
        y.drop(0, 0);
        due("read", y.read(1), 1);
        due("its mark", y.mark(1, 0), 2);
        y.clear(0);
        due("it stays", y.mark(1, 0), 2);
    }

    private void grammar() {
        about("rule = part {'or' part}; part = one {'and' one}: and binds first");
        reads(3, "pins 0 or pins 3 and pins 2", 0);
        reads(3, "pins 3 and pins 2 or pins 0", 0);
        reads(3, "(pins 0 or pins 3) and pins 3", 7);
        reads(3, "pins 3 and (pins 2 or pins 3)", 7);
        reads(3, "pins 0 or pins 3 or pins 0 and pins 1 or has 1 and pins 1", 0, 2, 7);

        about("one = 'not' one: it binds to the next alone, and may come again");
        reads(2, "not has 0 and has 1", 2);
        reads(2, "not has 0 or has 1", 0, 2, 3);
        reads(2, "not not has 0", 1, 3);
        reads(2, "not not not has 0", 0, 2);
        reads(2, "not (has 0 or has 1)", 0);
        reads(2, "not (not has 0 and not (has 1))", 1, 2, 3);
        reads(2, "not ".repeat(28) + "has 0   ", 1, 3);
        reads(2, "not ".repeat(27) + "has 0", 0, 2);

        about("one = '(' rule ')': one alone, and many side by side");
        reads(2, "(has 0)", 1, 3);
        reads(2, "((((has 0))))", 1, 3);
        reads(2, "(has 0)and(has 1)or(pins 0)", 0, 3);

        about("the words stand where the rule has them, all others nowhere");
        faulty("of", 1, 0);
        faulty("and turns", 1, 0);
        faulty("or turns", 1, 0);
        faulty("turns of", 1, 6);
        faulty("turns not turns", 1, 6);
        faulty("turns turns", 1, 6);
        faulty("turns or and turns", 1, 9);
        faulty("turns and or turns", 1, 10);
        faulty("not and", 1, 4);
        faulty("not or", 1, 4);
        faulty("pins not 1", 1, 5);
        faulty("sum 1 and 2", 1, 6);
        faulty("sum of 2", 1, 4);
        faulty("sum 1 of of 2", 1, 9);
        faulty("sum 1 of 2 of 3", 1, 11);
        faulty("turns 1", 1, 6);
        faulty("not 1", 1, 4);
        faulty("(1)", 1, 1);
    }

    // ---- numbers, words, blanks

    private void numbersAndWords() {
        about("NUMBERS have one or two figures");
        reads(3, "pins 3", 7);
        reads(3, "pins 03", 7);
        reads(3, "pins 00", 0);
        reads(12, "pins 12", 4095);
        reads(2, "sum 00 of 01 and sum 03 of 09", 3);

        about("FAULT 2: a NUMBER of three figures or more");
        faulty("pins 003", 2, 5);
        faulty("pins 000", 2, 5);
        faulty("pins 100", 2, 5);
        faulty("pins 0000000000000000000000000000001", 2, 5);
        faulty("pins 4294967297", 2, 5);
        faulty("pins 18446744073709551617", 2, 5);
        faulty("sum 000 of 3", 2, 4);
        faulty("sum 0 of 003", 2, 9);
        faulty("has 001", 2, 4);
        faulty("in000", 2, 2);

        about("words are letters a .. z side by side: any other byte ends one");
        for (int b = 0; b < 256; b++) {
            String rule = "turns" + (char) b;
            if (b == ' ') {
                reads(2, rule, 0, 3);
            } else {
                faulty(rule, 1, b >= 'a' && b <= 'z' ? 0 : 5);
            }
        }

        about("NUMBERS are figures: no other byte can stand for one");
        for (int b = 0; b < 256; b++) {
            String rule = "pins " + (char) b;
            if (b >= '0' && b <= '9') {
                due(rule, readRule(plain(2), 0, rule), b == '1' ? 2 : b == '0' || b == '2' ? 1 : 0);
            } else {
                faulty(rule, 1, b == ' ' ? 6 : 5);
            }
        }

        about("a byte that begins nothing cannot stand at the beginning");
        for (int b = 0; b < 256; b++) {
            if (b != ' ' && b != '(') {
                faulty((char) b + " turns", 1, 0);
            }
        }
    }

    private void blanks() {
        about("blanks (32) may stand anywhere but within words and NUMBERS");
        reads(2, "  turns", 0, 3);
        reads(2, "turns   ", 0, 3);
        reads(2, "   (   not    has     0   )   ", 0, 2);
        reads(2, "sum   1   of   2   and   turns", 3);
        faulty("tur ns", 1, 0);
        faulty("pins 1 2", 1, 7);
        faulty("pins 0 0", 1, 7);
        faulty("a nd", 1, 0);
        faulty("turns o r turns", 1, 6);

        about("blanks may be left out but between two words");
        reads(2, "pins1or(pins0)and not(turns)", 1, 2);
        reads(2, "sum1of2and turns", 3);
        reads(2, "not(has0)or has1", 0, 2, 3);
        reads(2, "(turns)or(turns)", 0, 3);

        about("two words side by side need one");
        faulty("notturns", 1, 0);
        faulty("turnsor turns", 1, 0);
        faulty("turns orturns", 1, 6);
        faulty("turns andnot turns", 1, 6);
        faulty("pins 1 ornot turns", 1, 7);
        faulty("sum 1 ofof 2", 1, 6);

        about("other blanks than 32 are none");
        faulty("turns\tor turns", 1, 5);
        faulty("turns\nor turns", 1, 5);
        faulty("turns\r", 1, 5);
        faulty("turns\u00a0", 1, 5);
        faulty("turns\u0000", 1, 5);
    }

    // ---- faults

    private void faults() {
        about("FAULTS: at the first byte that has one");
        faulty("pins 13 or pins 123 or x", 2, 5);
        faulty("x or pins 13 or (((((", 1, 0);
        faulty("(((((pins 13", 3, 4);
        faulty("pins 13 or (((((turns", 2, 5);
        faulty("pins 1 or x and pins 13", 1, 10);
        faulty("sum 99 of 0", 2, 4);
        faulty("sum 98 of 0", 2, 10);
        faulty("sum 99 or 5", 2, 4);

        about("FAULTS: the end at the text's length");
        faulty("", 1, 0);
        faulty(" ", 1, 1);
        faulty(blanks(BYTES), 1, BYTES);
        faulty("not", 1, 3);
        faulty("not  ", 1, 5);
        faulty("pins", 1, 4);
        faulty("sum", 1, 3);
        faulty("sum 1", 1, 5);
        faulty("sum 1 of", 1, 8);
        faulty("has ", 1, 4);
        faulty("runs", 1, 4);
        faulty("in", 1, 2);
        faulty("turns and", 1, 9);
        faulty("turns or ", 1, 9);
        faulty("(", 1, 1);
        faulty("(turns", 1, 6);
        faulty("((((turns)))", 1, 12);

        about("FAULTS: of these the least: a bad NUMBER where no NUMBER can stand");
        faulty("123", 1, 0);
        faulty("turns 123", 1, 6);
        faulty("pins 1 123", 1, 7);
        faulty("not 99", 1, 4);

        about("FAULTS: of these the least: a fifth bracket where no bracket can stand");
        faulty("((((turns(", 1, 9);
        faulty("((((pins(", 1, 8);
        faulty("((((sum 1(", 1, 9);

        about("FAULT 1: a word that cannot: at its first letter");
        faulty("turn", 1, 0);
        faulty("turnsx", 1, 0);
        faulty("pin 1", 1, 0);
        faulty("pinsx 1", 1, 0);
        faulty("  pins 1 xor pins 2", 1, 9);
        faulty("pins one", 1, 5);
        faulty("has x", 1, 4);
        faulty("a", 1, 0);
        faulty("z", 1, 0);
        faulty("no turns", 1, 0);
        faulty("an", 1, 0);
        faulty("turns an turns", 1, 6);
        faulty("turns o turns", 1, 6);

        about("FAULT 1: a bracket that closes none, or closes nothing");
        faulty(")", 1, 0);
        faulty("()", 1, 1);
        faulty("turns)", 1, 5);
        faulty("(turns))", 1, 7);
        faulty("(turns or)", 1, 9);
        faulty("(turns and)", 1, 10);
        faulty("(not)", 1, 4);
        faulty("(pins)", 1, 5);
        faulty("turns(turns)", 1, 5);
        faulty("(turns)(turns)", 1, 7);
        faulty("(turns)turns", 1, 7);

        about("FAULT 2: out of its bounds (at its first)");
        faulty("pins    13", 2, 8);
        faulty("pins13", 2, 4);
        faulty("turns or in 5 or in 6", 2, 20);
    }

    private void brackets() {
        about("FAULT 3: a fifth bracket open (at it)");
        faulty("(((((", 3, 4);
        faulty("(((((turns)))))", 3, 4);
        faulty(" ( ( ( (  (", 3, 10);
        faulty("not(not(not(not(not(turns", 3, 19);
        faulty("(turns and(turns or(turns and(turns or(turns", 3, 38);
        faulty("((((turns)and(turns)or(turns)and((", 3, 33);

        about("FAULT 3: four brackets open are none; closed ones do not count");
        reads(2, "((((turns))))", 0, 3);
        reads(2, "((((turns)))) or ((((turns))))", 0, 3);
        reads(2, "((((turns)and(turns))or(turns)))", 0, 3);
        reads(2, "(turns)or(turns)or(turns)or(turns)or(turns)or(turns)", 0, 3);
        faulty("((((turns))))(", 1, 13);
        faulty("((((turns)))) or (((((turns", 3, 21);

        about("brackets inside brackets keep what waits outside them");
        reads(2, "has 0 and (has 1 or (pins 1 and not (has 1 or (turns))))", 1, 3);
        reads(2, "not (has 0 and (not (has 1) or (pins 2 and (turns))))", 0, 2);
        reads(2, "pins 2 or not (has 0) and (not has 1 or (pins 9))", 0, 3);

        about("brackets side by side keep nothing of one another");
        reads(2, "(has 0 or has 1) and (pins 1)", 1, 2);
        reads(2, "(has 0 and has 1) or (pins 1)", 1, 2, 3);
        reads(2, "(not has 0) and (has 1)", 2);
        reads(2, "((has 0 or pins 0) and (has 1 or pins 0)) and (pins 2)", 3);
        reads(2, "not (has 0 or has 1) or (has 0 and (pins 2))", 0, 3);
    }

    // ---- read, fault, count

    private void reading() {
        about("Promise 23: all MARKS that are so, rising");
        PodMarks x = plain(5);
        addAll(x, 0, 31, 7, 16, 0);
        due("read", readRule(x, 0, "in 0 or pins 5 or pins 0"), 4);
        holds("rising", x, 0, 0, 7, 16, 31);

        about("Promise 23: no MARK is so: the LIST is empty");
        due("read", readRule(x, 0, "pins 6"), 0);
        due("the list", x.mark(0, NONE), 0);

        about("Promise 23: 64 MARKS are not too many");
        x = plain(7);
        due("has 0", readRule(x, 0, "has 0"), 64);
        due("the last", x.mark(0, 63), 127);
        due("turns of 12 places", readRule(plain(12), 0, "turns"), 64);
        due("all of 6 places", readRule(plain(6), 0, "turns or not turns"), 64);

        about("Promise 23: LARGE (above 64: the LIST is as it was)");
        x = plain(7);
        addAll(x, 2, 5, 3);
        due("65", readRule(x, 2, "has 0 or pins 0"), LARGE);
        due("128", readRule(x, 2, "pins 0 or not pins 0"), LARGE);
        holds("as it was", x, 2, 5, 3);
        due("4096", readRule(plain(12), 0, "not pins 1 or pins 1"), LARGE);

        about("Promise 23: THE TEXT is empty then, also by LARGE and by a FAULT");
        x = plain(7);
        readRule(x, 0, "pins 1");
        due("read", x.count(1), 0);
        readRule(x, 0, "has 0 or pins 0");
        due("LARGE", x.count(1), 0);
        readRule(x, 0, "has 99");
        due("a fault", x.count(1), 0);
        due("so the next one begins anew", readRule(x, 0, "pins 7"), 1);

        about("Promise 23: a FAULT leaves the LIST as it was");
        holds("before", x, 0, 127);
        due("1", readRule(x, 0, "pins"), -11);
        due("2", readRule(x, 0, "pins 13"), -12);
        due("3", readRule(x, 0, "((((("), -13);
        holds("after", x, 0, 127);

        about("Promise 23: a FAULT leaves nothing to the next text");
        x = plain(2);
        for (String broken : new String[] {"((((", "not", "(not", "turns and", "(turns and", "turns or", "(turns or not", "not (turns or", "turns x"}) {
            due("'" + broken + "'", readRule(x, 0, broken), -11);
            reads(x, "has 0", 1, 3);
            due("'" + broken + "'", readRule(x, 0, broken), -11);
            reads(x, "(has 0)and(not has 1)", 1);
        }

        about("Promise 23: as many texts as an object has calls");
        x = plain(2);
        for (int k = 0; k < 8; k++) {
            String many = "turns or ".repeat(12);
            due("'.. or turns', " + k, readRule(x, 5, many + "turns"), 2);
            due("'.. or has 0', " + k, readRule(x, 5, many + "has 0"), 3);
        }
        reads(x, "pins 1", 1, 2);

        about("Promise 23: UNKNOWN (THE TEXT stays)");
        x = plain(7);
        feedAll(x, "pins 0");
        for (int to : NO_LISTS) {
            due("to " + to, x.read(to), UNKNOWN);
        }
        due("its bytes", x.count(1), 6);
        due("it reads", x.read(0), 1);
        feedAll(x, "pins 99");
        due("UNKNOWN, though it has a fault", x.read(6), UNKNOWN);
        due("it stays", x.count(1), 7);
        x.read(0);
        feedAll(x, "pins 0 or not pins 0");
        due("UNKNOWN, though it is LARGE", x.read(-1), UNKNOWN);
        due("it stays", x.count(1), 20);

        about("Promise 23: to is any LIST 0 to 5");
        x = plain(2);
        for (int to = 0; to <= 5; to++) {
            due("to " + to, readRule(x, to, "pins 1"), 2);
        }
        due("in all", x.count(0), 12);
    }

    private void latestFault() {
        about("Promise 24: NONE before any read");
        PodMarks x = plain(7);
        due("a new object", x.fault(), NONE);
        feedAll(x, "pins 99");
        due("only fed", x.fault(), NONE);

        about("Promise 24: the byte of the FAULT of the latest read()");
        x.read(0);
        due("pins 99", x.fault(), 5);
        due("asked again", x.fault(), 5);
        readRule(x, 0, "has 12");
        due("has 12", x.fault(), 4);
        x.read(0);
        due("no text", x.fault(), 0);

        about("Promise 24: that was not UNKNOWN");
        readRule(x, 0, "has 12");
        feedAll(x, "pins 0");
        x.read(6);
        due("the earlier one", x.fault(), 4);

        about("Promise 24: NONE after a read without a FAULT");
        x.read(0);
        due("a right one", x.fault(), NONE);
        readRule(x, 0, "has 12");
        readRule(x, 0, "pins 9");
        due("one of no mark", x.fault(), NONE);
        readRule(x, 0, "has 12");
        due("LARGE", readRule(x, 0, "not pins 0"), LARGE);
        due("after LARGE", x.fault(), NONE);
    }

    private void counting() {
        about("Promise 25: nothing at first");
        for (int what = 0; what <= 2; what++) {
            due("what " + what, new PodMarks().count(what), 0);
        }

        about("Promise 25: as many as there can be");
        PodMarks x = plain(12);
        for (int list = 0; list < 6; list++) {
            x.build(list, list, 64);
        }
        feedAll(x, blanks(BYTES));
        for (int p = 0; p < 12; p++) {
            x.look(p, 0);
        }
        due("marks", x.count(0), 6 * 64);
        due("bytes", x.count(1), BYTES);
        due("places", x.count(2), 12);

        about("Promise 25: places that were looked at: 0 counts, NONE does not");
        x.look(0, NONE);
        x.look(11, NONE);
        due("two less", x.count(2), 10);
        x.look(11, 9);
        due("one more", x.count(2), 11);

        about("Promise 25: OUTSIDE");
        for (int what : new int[] {-1, 3, LOW, HIGH}) {
            due("what " + what, x.count(what), OUTSIDE);
        }
    }
}
