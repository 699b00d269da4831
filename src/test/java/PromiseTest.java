/** Each promise by answers worked out by hand: ordinary calls, the edges that the document names, and wrong ones. */
public final class PromiseTest extends Bench {
    public static void main(String[] args) {
        PromiseTest test = new PromiseTest();
        test.island();
        test.lists();
        test.listsOfLists();
        test.rules();
        test.owners();
        test.heaps();
        test.refusals();
        test.checks.end();
    }

    // ---- the island

    private void island() {
        promise1();
        promise2();
        promises3And4();
        promise5();
        promise6();
        promise7();
        promise8();
    }

    private void promise1() {
        PodMarks x = new PodMarks();
        due("1: n", x.is(0), 7);
        due("1: kind", x.is(1), LOSING);
        due("1: t", x.is(2), 1);
        due("1: a", x.is(3), 0);
        for (int list = 0; list < 6; list++) {
            due("1: list " + list + " is empty", x.mark(list, NONE), 0);
        }
        due("1: no text", x.count(1), 0);
        due("1: no place looked at", x.count(2), 0);
        due("1: no fault", x.fault(), NONE);
    }

    private void promise2() {
        PodMarks x = with(7, BLIND, 2, 3);
        addAll(x, 0, 1, 2, 3);
        addAll(x, 5, 100);
        x.look(6, 4);
        x.feed(2, 0x2020);
        for (int n : new int[] {1, 13, 0, -7, LOW, HIGH}) {
            due("2: places(" + n + ")", x.places(n), OUTSIDE);
        }
        due("2: what is refused changes nothing", x.count(0), 4);
        due("2: nor the reading", x.count(2), 1);
        due("2: the least", x.places(2), 2);
        due("2: lists are empty", x.count(0), 0);
        due("2: the reading is empty", x.count(2), 0);
        due("2: the text stays", x.count(1), 2);
        due("2: the kind stays", x.is(1), BLIND);
        due("2: t stays", x.is(2), 2);
        due("2: a stays", x.is(3), 3);
        due("2: the greatest", x.places(12), 12);
        due("2: is(0)", x.is(0), 12);
        x.add(3, 4095);
        x.look(11, 9);
        due("2: as many as before", x.places(12), 12);
        due("2: lists are empty then too", x.count(0), 0);
        due("2: the reading too", x.look(11, NONE), NONE);
    }

    private void promises3And4() {
        PodMarks x = new PodMarks();
        due("3: island(3, 4, 4)", x.island(3, 4, 4), 1);
        due("4: kind", x.is(1), 3);
        due("4: t", x.is(2), 4);
        due("4: a", x.is(3), 4);
        for (int v : new int[] {-1, 5, LOW, HIGH}) {
            due("3: t " + v, x.island(0, v, 0), OUTSIDE);
            due("3: a " + v, x.island(0, 0, v), OUTSIDE);
            due("4: is(" + v + ")", x.is(v), OUTSIDE);
        }
        for (int v : new int[] {-1, 4, LOW, HIGH}) {
            due("3: kind " + v, x.island(v, 0, 0), OUTSIDE);
        }
        due("3: refused, kind stays", x.is(1), 3);
        due("3: refused, t stays", x.is(2), 4);
        due("3: island(0, 0, 0)", x.island(0, 0, 0), 1);
        due("3: kind 0", x.is(1), 0);
        x.add(0, 5);
        x.look(0, 5);
        x.island(1, 1, 1);
        due("3: lists stay", x.count(0), 1);
        due("3: the reading stays", x.count(2), 1);
        due("4: is(4)", x.is(4), OUTSIDE);
    }

    private void promise5() {
        PodMarks x = new PodMarks();
        due("5: turned(0)", x.turned(0), 0);
        due("5: turned(127)", x.turned(127), 127);
        due("5: turned(3)", x.turned(3), 96);
        due("5: the middle", x.turned(8), 8);
        due("5: turned(128)", x.turned(128), OUTSIDE);
        due("5: turned(-1)", x.turned(-1), OUTSIDE);
        x.places(12);
        due("5: turned(1) of twelve", x.turned(1), 2048);
        due("5: turned(4095)", x.turned(4095), 4095);
        due("5: turned(4096)", x.turned(4096), OUTSIDE);
        x.places(2);
        due("5: turned(1) of two", x.turned(1), 2);
    }

    private void promise6() {
        PodMarks x = with(6, LOSING, 2, 0);
        due("6: losing two", x.may(0b101101, 0b100100, 0b001001), 1);
        due("6: lost without pins", x.may(0b101101, 0b101101, 0b010010), 1);
        due("6: losing three", x.may(0b101101, 0b100000, 0b001101), 0);
        due("6: a pin unseen, but not lost", x.may(0b101101, 0b100101, 0), 0);
        due("6: in common", x.may(0b101101, 0b101101, 1), OUTSIDE);
        x.island(BLIND, 2, 4);
        due("6: blind, two unseen", x.may(0b101101, 0b001001, 0), 1);
        due("6: blind, three unseen", x.may(0b101101, 0b001000, 0), 0);
        due("6: blind, none is added", x.may(0b101101, 0b101111, 0), 0);
        due("6: blind, lost", x.may(0b101101, 0b101101, 2), 0);
        due("6: blind, in common", x.may(0b101101, 0b101101, 1), OUTSIDE);
        x.island(ADDING, 1, 2);
        due("6: adding two", x.may(0b000011, 0b110011, 0), 1);
        due("6: adding three", x.may(0b000011, 0b111011, 0), 0);
        due("6: adding two, one unseen", x.may(0b000011, 0b110001, 0), 1);
        due("6: two unseen", x.may(0b000011, 0b110000, 0), 0);
        x.island(TURNED, 0, 1);
        due("6: as it is", x.may(0b000011, 0b000111, 0), 1);
        due("6: from the other end", x.may(0b000011, 0b110001, 0), 1);
        due("6: one unseen", x.may(0b000011, 0b100000, 0), 0);
        due("6: lost", x.may(0b000011, 0b000011, 4), 0);
        for (int v : new int[] {-1, 64, LOW, HIGH}) {
            due("6: m " + v, x.may(v, 0, 0), OUTSIDE);
            due("6: s " + v, x.may(0, v, 0), OUTSIDE);
            due("6: l " + v, x.may(0, 0, v), OUTSIDE);
        }
    }

    private void promise7() {
        PodMarks x = with(7, LOSING, 2, 0);
        due("7: losing, s", x.between(0b1010, 0b1100, 0), 0b1000);
        due("7: losing, l", x.between(0b1010, 0b1100, 1), 0b0110);
        due("7: too far, s", x.between(0b0010, 0b1101, 0), NONE);
        due("7: too far, l", x.between(0b0010, 0b1101, 1), NONE);
        x.island(BLIND, 1, 4);
        due("7: blind, the least s", x.between(0b111, 0b111, 0), 0b011);
        due("7: blind, s", x.between(0b0111, 0b1011, 0), 0b0011);
        due("7: blind, l", x.between(0b0111, 0b1011, 1), 0);
        due("7: blind, pins two apart", x.between(0b0111, 0b0001, 0), NONE);
        x.island(ADDING, 1, 1);
        due("7: adding, s", x.between(0b0011, 0b1100, 0), 0b0101);
        due("7: adding, three apart", x.between(0b000111, 0b111000, 0), NONE);
        x.island(TURNED, 0, 0);
        due("7: turned, the lesser end", x.between(64, 1, 0), 1);
        due("7: turned, itself", x.between(96, 96, 0), 3);
        due("7: turned, l", x.between(96, 96, 1), 0);
        due("7: turned, others", x.between(96, 1, 1), NONE);
        for (int v : new int[] {-1, 128, LOW, HIGH}) {
            due("7: m " + v, x.between(v, 0, 0), OUTSIDE);
            due("7: k " + v, x.between(0, v, 0), OUTSIDE);
            due("7: what " + v, x.between(0, 0, v), OUTSIDE);
        }
        due("7: what 2", x.between(0, 0, 2), OUTSIDE);
    }

    private void promise8() {
        PodMarks x = with(7, LOSING, 2, 0);
        due("8: losing", x.fills(5), 1 + 7 + 21);
        x.island(BLIND, 2, 4);
        due("8: blind", x.fills(0b1111), 1 + 4 + 6);
        due("8: blind, fewer pins than t", x.fills(1), 2);
        due("8: blind, no pin", x.fills(0), 1);
        x.island(ADDING, 1, 2);
        due("8: adding", x.fills(0b111), (1 + 3) * (1 + 4 + 6));
        x.island(TURNED, 0, 1);
        due("8: turned, far ends", x.fills(0b0000111), 5 + 5);
        due("8: turned, alike ends", x.fills(0b1001001), 5);
        due("8: turned, one in common", x.fills(0b0000001), 7 + 7 - 1);
        due("8: fills(128)", x.fills(128), OUTSIDE);
        due("8: fills(-1)", x.fills(-1), OUTSIDE);
        x.places(2);
        x.island(LOSING, 4, 4);
        due("8: more than there are places", x.fills(3), 4);
    }

    // ---- lists

    private void lists() {
        promise9();
        promises10To12();
        promise13();
        promise14();
        promise15();
        promise16();
    }

    private void promise9() {
        PodMarks x = new PodMarks();
        due("9: the first", x.add(2, 127), 1);
        due("9: the second", x.add(2, 0), 2);
        due("9: it has it", x.add(2, 127), NOT);
        due("9: another list", x.add(3, 127), 1);
        due("9: no set of places", x.add(2, 128), OUTSIDE);
        due("9: no set", x.add(2, -1), OUTSIDE);
        holds("9", x, 2, 127, 0);
        for (int m = 1; m < 62; m++) {
            x.add(2, m);
        }
        due("9: the last", x.add(2, 62), 64);
        due("9: one more", x.add(2, 100), FULL);
        due("9: 64 are there", x.mark(2, NONE), 64);
        due("9: NOT ahead of FULL", x.add(2, 127), NOT);
        due("9: OUTSIDE ahead of FULL", x.add(2, 128), OUTSIDE);
        x.drop(2, 0);
        due("9: room again, for the one that went", x.add(2, 127), 64);
    }

    private void promises10To12() {
        PodMarks x = new PodMarks();
        addAll(x, 1, 10, 20, 30, 40);
        due("10: one goes", x.drop(1, 1), 3);
        holds("10", x, 1, 10, 30, 40);
        due("10: the last goes", x.drop(1, 2), 2);
        due("10: the first goes", x.drop(1, 0), 1);
        for (int i : new int[] {1, -1, LOW, HIGH}) {
            due("10: drop(1, " + i + ")", x.drop(1, i), UNKNOWN);
        }
        holds("10: refused", x, 1, 30);
        due("10: it may come back", x.add(1, 20), 2);
        due("12: i NONE", x.mark(1, NONE), 2);
        for (int i : new int[] {2, -2, LOW, HIGH}) {
            due("12: mark(1, " + i + ")", x.mark(1, i), UNKNOWN);
        }
        due("11: clear", x.clear(1), 2);
        due("11: again", x.clear(1), 0);
        due("11: all gone", x.mark(1, 0), UNKNOWN);
        due("11: may come back", x.add(1, 30), 1);
        due("10: empty list", x.drop(0, 0), UNKNOWN);
    }

    private void promise13() {
        PodMarks x = new PodMarks();
        due("13: an empty one is good", x.good(0, 0), 1);
        due("13: no first", x.good(0, 1), NONE);
        due("13: no witness", x.good(0, 3), NONE);
        addAll(x, 0, 0b0000, 0b1100, 0b1111, 0b1101, 0b1110, 0b0001);
        due("13: not good", x.good(0, 0), 0);
        due("13: the first by its first", x.good(0, 1), 0);
        due("13: then its second", x.good(0, 2), 5);
        due("13: s", x.good(0, 3), 0);
        due("13: l", x.good(0, 4), 1);
        x.drop(0, 5);
        due("13: now the first", x.good(0, 1), 1);
        due("13: now the second", x.good(0, 2), 3);
        due("13: now s", x.good(0, 3), 0b1100);
        due("13: now l", x.good(0, 4), 1);
        x.island(BLIND, 1, 0);
        due("13: by the island as it is, s", x.good(0, 3), 0b1100);
        due("13: by the island as it is, l", x.good(0, 4), 0);
        x.island(LOSING, 0, 0);
        due("13: good then", x.good(0, 0), 1);
        due("13: no second then", x.good(0, 2), NONE);
        due("13: no l then", x.good(0, 4), NONE);
        for (int v : new int[] {-1, 5, LOW, HIGH}) {
            due("13: what " + v, x.good(0, v), OUTSIDE);
        }
    }

    private void promise14() {
        PodMarks x = with(3, LOSING, 1, 0);
        due("14: all", x.build(0, 0, 64), 4);
        holds("14", x, 0, 0, 3, 5, 6);
        due("14: the other half", x.build(1, 1, 3), 3);
        holds("14: by 4 k and ..", x, 1, 1, 4, 7);
        due("14: one more", x.build(1, 1, 4), 4);
        holds("14: goes on", x, 1, 1, 4, 7, 2);
        due("14: more than wanted stay", x.build(1, 0, 2), 4);
        due("14: none wanted", x.build(2, 0, 0), 0);
        addAll(x, 2, 7, 6);
        due("14: from what it has, though bad", x.build(2, 0, 64), 3);
        holds("14: bad", x, 2, 7, 6, 0);
        due("14: greatest seed", x.build(3, 4095, 1), 1);
        holds("14: seed left over", x, 3, 7);
        for (int v : new int[] {-1, LOW, HIGH}) {
            due("14: seed " + v, x.build(0, v, 1), OUTSIDE);
            due("14: many " + v, x.build(0, 0, v), OUTSIDE);
        }
        due("14: seed 4096", x.build(0, 4096, 1), OUTSIDE);
        due("14: many 65", x.build(0, 0, 65), OUTSIDE);
        PodMarks y = with(12, LOSING, 0, 0);
        due("14: at most 64", y.build(0, 4095, 64), 64);
        due("14: first", y.mark(0, 0), 4095);
        due("14: second", y.mark(0, 1), (8191 + 4095) % 4096);
        due("14: nothing comes to a full one", y.build(0, 0, 64), 64);
    }

    private void promise15() {
        PodMarks x = with(3, LOSING, 1, 0);
        due("15: how many", x.most(NONE, NONE), 4);
        int[] row = {0, 3, 5, 6};
        for (int i = 0; i < 4; i++) {
            due("15: " + i, x.most(NONE, i), row[i]);
        }
        due("15: none such", x.most(NONE, 4), NONE);
        due("15: none such below", x.most(NONE, -2), NONE);
        due("15: one pin", x.most(1, NONE), 3);
        due("15: more pins than places", x.most(5, NONE), 0);
        due("15: no first of none", x.most(5, 0), NONE);
        due("15: w 6", x.most(6, NONE), OUTSIDE);
        due("15: w -2", x.most(-2, NONE), OUTSIDE);
        x.island(LOSING, 2, 0);
        due("15: another island", x.most(NONE, NONE), 2);
        due("15: its second", x.most(NONE, 1), 7);
        x.places(5);
        due("15: other places", x.most(NONE, NONE), 4);
        due("15: their second", x.most(NONE, 1), 7);
        due("15: their third", x.most(NONE, 2), 25);
        due("15: their last", x.most(NONE, 3), 30);
        x.island(TURNED, 0, 0);
        due("15: of each two ends one", x.most(NONE, NONE), 20);
        due("15: ahead of 16, which is 1 turned", x.most(NONE, 13), 15);
        due("15: behind it", x.most(NONE, 14), 17);
        x.places(6);
        due("15: too large", x.most(NONE, NONE), LARGE);
        due("15: OUTSIDE ahead of LARGE", x.most(6, NONE), OUTSIDE);
    }

    private void promise16() {
        PodMarks x = with(4, LOSING, 2, 0);
        due("16: losing", x.bound(), (16 + 4 * 8 + 6 * 4) / (1 + 4 + 6));
        x.island(BLIND, 4, 4);
        due("16: blind", x.bound(), 16);
        x.island(ADDING, 1, 2);
        due("16: adding, least with all pins", x.bound(), 16 / 5);
        x.island(TURNED, 0, 1);
        due("16: turned", x.bound(), 16);
        x.places(12);
        x.island(LOSING, 4, 0);
        due("16: twelve", x.bound(), (4096 + 12 * 2048 + 66 * 1024 + 220 * 512 + 495 * 256) / (1 + 12 + 66 + 220 + 495));
        x.places(2);
        due("16: t above n", x.bound(), (4 + 2 * 2 + 1) / 4);
    }

    // ---- lists of lists

    private void listsOfLists() {
        promise17();
        promise18();
        promise19();
        promise20();
        promise21();
    }

    private void promise17() {
        PodMarks x = with(5, LOSING, 1, 0);
        addAll(x, 0, 0b00001, 0b00110);
        addAll(x, 1, 0b00001, 0b11010);
        due("17: lay", x.lay(2, 0, 1, 2), 4);
        holds("17", x, 2, 0b00101, 0b01001, 0b00110, 0b01010);
        addAll(x, 3, 0b00001, 0b01001);
        due("17: like ones once", x.lay(3, 3, 1, 3), 2);
        holds("17: to is a", x, 3, 0b01001, 0b10001);
        due("17: to is b", x.lay(1, 0, 1, 4), 4);
        holds("17: to was b", x, 1, 0b10001, 0b00001, 0b10110, 0b00110);
        due("17: of an empty one", x.lay(4, 5, 0, 1), 0);
        for (int p : new int[] {0, 5, -1, LOW, HIGH}) {
            due("17: p " + p, x.lay(2, 0, 1, p), OUTSIDE);
        }
        PodMarks y = with(12, LOSING, 0, 0);
        y.build(0, 0, 9);
        y.build(1, 0, 8);
        due("17: 72 are too many", y.lay(1, 0, 1, 6), FULL);
        due("17: nothing is changed", y.mark(1, NONE), 8);
        y.drop(0, 0);
        due("17: 64 are not", y.lay(1, 0, 1, 6), 64);
        PodMarks z = with(12, LOSING, 0, 0);
        z.build(0, 0, 64);
        due("17: 4096 pairs, 128 of them others", z.lay(1, 0, 0, 1), FULL);
        z.places(7);
        feedAll(z, "not has 0");
        z.read(0);
        due("17: 4096 pairs, 32 of them others", z.lay(1, 0, 0, 1), 32);
        PodMarks w = with(6, LOSING, 0, 0);
        w.build(0, 0, 64);
        due("17: all pairs of all marks", w.lay(0, 0, 0, 3), 64);
    }

    private void promise18() {
        PodMarks x = new PodMarks();
        addAll(x, 0, 5, 6, 7);
        addAll(x, 1, 8, 6, 9);
        due("18: join", x.join(2, 0, 1), 5);
        holds("18", x, 2, 5, 6, 7, 8, 9);
        due("18: to is b", x.join(1, 0, 1), 5);
        holds("18: to was b", x, 1, 5, 6, 7, 8, 9);
        due("18: itself", x.join(0, 0, 0), 3);
        x.island(LOSING, 0, 0);
        x.build(3, 0, 64);
        due("18: all there", x.join(4, 3, 0), 64);
        x.add(0, 64);
        due("18: 65", x.join(0, 3, 0), FULL);
        holds("18: nothing is changed", x, 0, 5, 6, 7, 64);
    }

    private void promise19() {
        PodMarks x = with(5, LOSING, 1, 0);
        addAll(x, 0, 0b10110, 0b10010, 0b01011);
        due("19: shorten", x.shorten(1, 0, 2), 2);
        holds("19", x, 1, 0b01010, 0b00111);
        due("19: the lowest", x.shorten(1, 0, 0), 3);
        holds("19: lowest", x, 1, 0b01011, 0b01001, 0b00101);
        due("19: the highest, to is a", x.shorten(0, 0, 4), 3);
        holds("19: highest", x, 0, 0b0110, 0b0010, 0b1011);
        due("19: n stays", x.is(0), 5);
        for (int p : new int[] {-1, 5, LOW, HIGH}) {
            due("19: p " + p, x.shorten(1, 0, p), OUTSIDE);
        }
    }

    private void promise20() {
        PodMarks x = with(5, LOSING, 1, 0);
        addAll(x, 0, 0b00001, 0b11011, 0b01100);
        due("20: turn", x.turn(1, 0), 3);
        holds("20", x, 1, 0b10000, 0b11011, 0b00110);
        due("20: to is a", x.turn(1, 1), 3);
        holds("20: back", x, 1, 0b00001, 0b11011, 0b01100);
        due("20: of an empty one", x.turn(0, 5), 0);
        due("20: to is empty", x.mark(0, NONE), 0);
    }

    private void promise21() {
        PodMarks x = with(5, LOSING, 1, 0);
        addAll(x, 0, 0b00000, 0b00100, 0b00001, 0b10011);
        due("21: even", x.even(1, 0, 2), 3);
        holds("21", x, 1, 0b00000, 0b00101, 0b10111);
        due("21: to is a", x.even(0, 0, 0), 3);
        holds("21: to was a", x, 0, 0b00000, 0b00101, 0b10010);
        for (int p : new int[] {-1, 5, LOW, HIGH}) {
            due("21: p " + p, x.even(1, 0, p), OUTSIDE);
        }
    }

    // ---- rules

    private void rules() {
        promise22();
        promise23();
        faults();
        promise25();
    }

    private void promise22() {
        PodMarks x = with(3, LOSING, 1, 0);
        due("22: five", x.feed(5, 0x41414170696e7320L), 5);
        due("22: the highest first", x.feed(3, 0x732031L), 8);
        due("22: 'pins s 1' is no rule", x.read(0), -11);
        due("22: its byte", x.fault(), 5);
        due("22: eight", x.feed(8, 0x70696e7320202031L), 8);
        due("22: pins 1", x.read(0), 3);
        for (int n : new int[] {0, 9, -1, LOW, HIGH}) {
            due("22: n " + n, x.feed(n, 0L), OUTSIDE);
        }
        for (int k = 1; k <= 14; k++) {
            due("22: blanks", x.feed(8, 0x2020202020202020L), 8 * k);
        }
        due("22: 119", x.feed(7, 0x20202020202020L), 119);
        due("22: 121", x.feed(2, 0x2020L), FULL);
        due("22: OUTSIDE ahead of FULL", x.feed(9, 0L), OUTSIDE);
        due("22: 120", x.feed(1, 0x20L), 120);
        due("22: 121 again", x.feed(1, 0x20L), FULL);
        due("22: all are there", x.count(1), 120);
        due("22: blanks are no rule", x.read(0), -11);
        due("22: at the end", x.fault(), 120);
    }

    private void reads(PodMarks x, String rule, int... marks) {
        feedAll(x, rule);
        due("23: '" + rule + "'", x.read(5), marks.length);
        holds("23: '" + rule + "'", x, 5, marks);
        due("24: '" + rule + "' has no fault", x.fault(), NONE);
        due("23: the text is empty then", x.count(1), 0);
    }

    private void promise23() {
        PodMarks x = with(4, LOSING, 1, 0);
        reads(x, "pins 3", 7, 11, 13, 14);
        reads(x, "pins 12");
        reads(x, "has 11");
        reads(x, "has 3 and has 2", 12, 13, 14, 15);
        reads(x, "runs 2", 5, 9, 10, 11, 13);
        reads(x, "runs 0", 0);
        reads(x, "turns", 0, 6, 9, 15);
        reads(x, "sum 0 of 5", 0, 6, 9, 15);
        reads(x, "sum 5 of 11", 6, 9);
        reads(x, "sum 5 of 5");
        reads(x, "sum 98 of 99");
        reads(x, "sum 0 of 1 and pins 4", 15);
        addAll(x, 0, 9, 3, 14);
        reads(x, "in 0", 3, 9, 14);
        reads(x, "in 5 and not in 0");
        reads(x, "not has 0 and not has 1 or pins 4", 0, 4, 8, 12, 15);
        reads(x, "pins 4 or not has 0 and not has 1", 0, 4, 8, 12, 15);
        reads(x, "not (has 0 or has 1)", 0, 4, 8, 12);
        reads(x, "not not turns", 0, 6, 9, 15);
        reads(x, "not not not not has 0 or has 1 and not turns and(has 0)", 1, 3, 5, 7, 9, 11, 13, 15);
        reads(x, "  pins03or(((( turns))))and pins4  ", 7, 11, 13, 14, 15);
        reads(x, "(turns)and(pins 2)or(pins 0)and(turns)or(pins 4)or(pins 9)", 0, 6, 9, 15);
        reads(x, "pins 1and pins 1", 1, 2, 4, 8);
        reads(x, "sum2of3and pins 1", 2);
        StringBuilder nots = new StringBuilder();
        for (int k = 0; k < 28; k++) {
            nots.append("not ");
        }
        reads(x, nots + "has 3   ", 8, 9, 10, 11, 12, 13, 14, 15);

        PodMarks y = with(7, LOSING, 1, 0);
        y.add(1, 100);
        feedAll(y, "has 0");
        due("23: 64 are not too many", y.read(0), 64);
        due("23: the last", y.mark(0, 63), 127);
        feedAll(y, "has 0 or pins 0");
        due("23: 65 are", y.read(1), LARGE);
        holds("23: the list is as it was", y, 1, 100);
        due("23: the text is empty then", y.count(1), 0);
        due("24: not a fault", y.fault(), NONE);
        feedAll(y, "in 1");
        for (int to : NO_LISTS) {
            due("23: to " + to, y.read(to), UNKNOWN);
        }
        due("23: the text stays", y.count(1), 4);
        due("23: in itself", y.read(1), 1);
    }

    private void faulty(String rule, int fault, int at) {
        PodMarks x = new PodMarks();
        x.add(0, 77);
        feedAll(x, rule);
        due("23: '" + rule + "'", x.read(0), -10 - fault);
        due("24: '" + rule + "'", x.fault(), at);
        due("23: '" + rule + "': the text is empty", x.count(1), 0);
        holds("23: '" + rule + "': the list is as it was", x, 0, 77);
        due("24: an unknown list", x.read(6), UNKNOWN);
        due("24: leaves it", x.fault(), at);
        feedAll(x, "pins 0");
        due("24: a right one", x.read(0), 1);
        due("24: has none", x.fault(), NONE);
    }

    private void faults() {
        faulty("", 1, 0);
        faulty("   ", 1, 3);
        faulty("pins", 1, 4);
        faulty("pins  ", 1, 6);
        faulty("pins x", 1, 5);
        faulty("pin 3", 1, 0);
        faulty("pi ns 3", 1, 0);
        faulty("pinss 3", 1, 0);
        faulty("pins 1 2", 1, 7);
        faulty("pins 1 222", 1, 7);
        faulty("pins 1 turns", 1, 7);
        faulty("pins 1turns", 1, 6);
        faulty("turnsand turns", 1, 0);
        faulty("notturns", 1, 0);
        faulty("turns turns", 1, 6);
        faulty("turns not turns", 1, 6);
        faulty("turns(turns)", 1, 5);
        faulty("turns and", 1, 9);
        faulty("turns or ", 1, 9);
        faulty("turns or and", 1, 9);
        faulty("or turns", 1, 0);
        faulty("of", 1, 0);
        faulty("12", 1, 0);
        faulty("(turns", 1, 6);
        faulty("(turns ", 1, 7);
        faulty("turns)", 1, 5);
        faulty("()", 1, 1);
        faulty("not", 1, 3);
        faulty("not)", 1, 3);
        faulty("Turns", 1, 0);
        faulty("turnS", 1, 0);
        faulty("turnsa", 1, 0);
        faulty("turnsz", 1, 0);
        faulty("turns{", 1, 5);
        faulty("turns`", 1, 5);
        faulty("turns/", 1, 5);
        faulty("turns:", 1, 5);
        faulty("pins 1/", 1, 6);
        faulty("pins 1:", 1, 6);
        faulty("turns\t", 1, 5);
        faulty("turns\u00e9", 1, 5);
        faulty("\u0000", 1, 0);
        faulty("sum of 3", 1, 4);
        faulty("sum 1 3", 1, 6);
        faulty("sum 1 or 3", 1, 6);
        faulty("sum 1 of", 1, 8);
        faulty("sum 1 of of", 1, 9);
        faulty("pins -1", 1, 5);
        faulty("pins 13", 2, 5);
        faulty("pins 012", 2, 5);
        faulty("pins 100 x", 2, 5);
        faulty("pins 1000000000000000000", 2, 5);
        faulty("has 12", 2, 4);
        faulty("runs 13", 2, 5);
        faulty("in 6", 2, 3);
        faulty("in 05 and in 06", 2, 13);
        faulty("sum 99 of 5", 2, 4);
        faulty("sum 98 of 0", 2, 10);
        faulty("sum 98 of 00", 2, 10);
        faulty("sum 98 of 100", 2, 10);
        faulty("(((((turns)))))", 3, 4);
        faulty("(((( (", 3, 5);
        faulty("((((not(turns", 3, 7);
        faulty("((((turns(", 1, 9);
        faulty("((((turns))))(", 1, 13);
        faulty("(turns)or((((turns or(turns", 3, 21);
        faulty("pins 13 or (((((", 2, 5);
    }

    private void promise25() {
        PodMarks x = new PodMarks();
        addAll(x, 0, 1, 2);
        addAll(x, 5, 1);
        x.feed(3, 0x202020L);
        x.look(0, 0);
        x.look(6, 9);
        due("25: marks", x.count(0), 3);
        due("25: bytes", x.count(1), 3);
        due("25: places", x.count(2), 2);
        for (int what : new int[] {-1, 3, LOW, HIGH}) {
            due("25: what " + what, x.count(what), OUTSIDE);
        }
        x.look(0, NONE);
        due("25: no more looked at", x.count(2), 1);
    }

    // ---- owners, readings

    private void owners() {
        promise26();
        promise27();
        promises28And29();
    }

    private void promise26() {
        PodMarks x = with(5, BLIND, 1, 0);
        addAll(x, 0, 0b11100, 0b00111, 0b00011, 0b01011);
        due("26: how many", x.owner(0, 0b00011, 0, NONE), 3);
        due("26: the first", x.owner(0, 0b00011, 0, 0), 1);
        due("26: the last", x.owner(0, 0b00011, 0, 2), 3);
        for (int i : new int[] {3, -2, LOW, HIGH}) {
            due("26: i " + i, x.owner(0, 0b00011, 0, i), NONE);
        }
        due("26: nobody's", x.owner(0, 0, 0, NONE), 0);
        due("26: nobody's first", x.owner(0, 0, 0, 0), NONE);
        due("26: lost, but blind", x.owner(0, 0b00011, 4, NONE), 0);
        x.island(LOSING, 1, 0);
        due("26: losing", x.owner(0, 0b00011, 4, NONE), 2);
        due("26: losing, the second", x.owner(0, 0b00011, 4, 1), 2);
        due("26: in common", x.owner(0, 0b00011, 2, NONE), OUTSIDE);
        for (int v : new int[] {-1, 32, LOW, HIGH}) {
            due("26: s " + v, x.owner(0, v, 0, NONE), OUTSIDE);
            due("26: l " + v, x.owner(0, 0, v, NONE), OUTSIDE);
        }
    }

    private void promise27() {
        PodMarks x = new PodMarks();
        due("27: at first", x.look(6, 9), NONE);
        due("27: then", x.look(6, 0), 9);
        due("27: none", x.look(6, NONE), 0);
        due("27: not looked at", x.look(6, NONE), NONE);
        for (int v : new int[] {-2, 10, LOW, HIGH}) {
            due("27: v " + v, x.look(0, v), OUTSIDE);
        }
        for (int p : new int[] {-1, 7, LOW, HIGH}) {
            due("27: place " + p, x.look(p, 1), OUTSIDE);
        }
        due("27: refused", x.count(2), 0);
        x.places(12);
        due("27: place 11", x.look(11, 1), NONE);
    }

    private void promises28And29() {
        PodMarks x = with(12, LOSING, 1, 0);
        addAll(x, 0, 4095, 0, 1, 2);
        due("28: nothing looked at", x.chance(0, 3), 1);
        due("29: all, then", x.likely(0, NONE), 4);
        due("29: in order, then", x.likely(0, 2), 2);
        for (int p = 0; p < 12; p++) {
            x.look(p, 9);
        }
        due("28: the greatest", x.chance(0, 0), 282429536481L);
        due("28: none", x.chance(0, 1), 0);
        due("29: one", x.likely(0, NONE), 1);
        due("29: no second", x.likely(0, 1), NONE);
        x.places(4);
        addAll(x, 0, 8, 4, 3, 1, 2);
        x.look(0, 3);
        x.look(1, 3);
        due("28: neither", x.chance(0, 0), 36);
        due("28: both", x.chance(0, 2), 9);
        due("28: one", x.chance(0, 3), 18);
        int[] order = {0, 1, 3, 4, 2};
        for (int i = 0; i < 5; i++) {
            due("29: " + i, x.likely(0, i), order[i]);
        }
        for (int i : new int[] {5, -2, LOW, HIGH}) {
            due("29: i " + i, x.likely(0, i), NONE);
        }
        for (int i : new int[] {5, -1, LOW, HIGH}) {
            due("28: i " + i, x.chance(0, i), UNKNOWN);
        }
        x.look(1, 0);
        due("29: those of chance 0 not", x.likely(0, NONE), 3);
        due("29: nor as the last", x.likely(0, 3), NONE);
    }

    // ---- heaps, rings

    private void heaps() {
        promise30();
        promise31();
        promises32And33();
        promise34();
    }

    private void promise30() {
        PodMarks x = with(5, LOSING, 1, 0);
        addAll(x, 0, 0b00001, 0b00010, 0b00011, 0b00100, 0b01000, 0);
        due("30: one", x.heap(0, 0b00011, 1, NONE), 1);
        due("30: two", x.heap(0, 0b00011, 2, NONE), 1 + 1 + 2 + 1);
        due("30: three", x.heap(0, 0b00011, 3, NONE), 5 + 1 + 2 + 1);
        due("30: the fewest", x.heap(0, 0b00011, 3, 0), 1);
        due("30: its mark", x.heap(0, 0b00011, 3, 1), 2);
        due("30: no second", x.heap(0, 0b00011, 3, 2), NONE);
        due("30: the fewest of three", x.heap(0, 0b01101, 3, 0), 3);
        due("30: its first", x.heap(0, 0b01101, 3, 1), 0);
        due("30: its second", x.heap(0, 0b01101, 3, 2), 3);
        due("30: its third", x.heap(0, 0b01101, 3, 3), 4);
        due("30: not of two", x.heap(0, 0b01101, 2, 0), NONE);
        due("30: nor its first", x.heap(0, 0b01101, 2, 1), NONE);
        due("30: how many of two", x.heap(0, 0b01101, 2, NONE), 0);
        due("30: four are needed but for 2", x.heap(0, 0b01111, 3, 1), 2);
        due("30: no pin", x.heap(0, 0, 3, NONE), 1);
        due("30: whose", x.heap(0, 0, 3, 1), 5);
        due("30: the first by rows", first(x), 10);
        for (int v : new int[] {-1, 32, LOW, HIGH}) {
            due("30: s " + v, x.heap(0, v, 1, 0), OUTSIDE);
        }
        for (int h : new int[] {0, 4, LOW, HIGH}) {
            due("30: h " + h, x.heap(0, 1, h, 0), OUTSIDE);
        }
        for (int what : new int[] {-2, 4, LOW, HIGH}) {
            due("30: what " + what, x.heap(0, 1, 1, what), OUTSIDE);
        }
        due("30: an empty list", x.heap(1, 1, 3, NONE), 0);
        PodMarks y = with(12, LOSING, 0, 0);
        y.build(0, 0, 64);
        due("30: of 64", y.heap(0, 63, 1, 1), 63);
        due("30: one or two of 64", y.heap(0, 63, 2, NONE), 1 + (3 * 3 * 3 * 3 * 3 * 3 - 1) / 2);
    }

    private static int first(PodMarks x) {
        x.clear(1);
        addAll(x, 1, 0b00110, 0b00101, 0b00011);
        return 10 * x.heap(1, 0b00111, 3, 2) + x.heap(1, 0b00111, 3, 1);
    }

    private void promise31() {
        PodMarks x = with(5, LOSING, 1, 0);
        addAll(x, 0, 0b00011, 0b00101, 0b01001);
        due("31: all have it", x.make(0, 0, 1, 2, 0b01110), 0);
        due("31: some have it", x.make(0, 0, 1, 2, 0b01101), 1);
        due("31: none has it", x.make(0, 0, 1, 2, 0b10001), 0);
        due("31: alone", x.make(0, 1, NONE, NONE, 0b00101), 1);
        due("31: alone, another", x.make(0, 1, NONE, NONE, 0b00001), 0);
        due("31: without j", x.make(0, 0, NONE, 2, 0b01011), 1);
        due("31: without k", x.make(0, 0, 2, NONE, 0b00111), 0);
        due("31: like ones", x.make(0, 1, 1, 1, 0b00101), 1);
        for (int i : new int[] {3, -2, LOW, HIGH}) {
            due("31: i " + i, x.make(0, i, NONE, NONE, 0), UNKNOWN);
            due("31: j " + i, x.make(0, 0, i, NONE, 0), UNKNOWN);
            due("31: k " + i, x.make(0, 0, NONE, i, 0), UNKNOWN);
        }
        due("31: i NONE", x.make(0, NONE, 0, 0, 0), UNKNOWN);
        for (int s : new int[] {-1, 32, LOW, HIGH}) {
            due("31: s " + s, x.make(0, 0, 0, 0, s), OUTSIDE);
        }
        due("31: UNKNOWN ahead of OUTSIDE", x.make(0, 0, 0, 3, 32), UNKNOWN);
    }

    private void promises32And33() {
        PodMarks x = with(5, LOSING, 1, 0);
        addAll(x, 0, 0b00011, 0b00101, 0b01001, 0b11111);
        due("32: itself", x.trace(0, 0b00101, 1, 0), 1);
        due("32: of two", x.trace(0, 0b00101, 2, 0), 1 + 3);
        due("32: of three", x.trace(0, 0b00101, 3, 0), 1 + 3 + 3 + 1);
        due("32: the fewest", x.trace(0, 0b00101, 3, 1), 1);
        due("32: in all", x.trace(0, 0b00101, 2, 2), 1);
        due("33: who", x.inAll(0, 0b00101, 2, 0), 1);
        due("33: no other", x.inAll(0, 0b00101, 2, 1), NONE);
        due("32: two are", x.trace(0, 0b01101, 2, 0), 1 + 2);
        due("32: none of them in all", x.trace(0, 0b01101, 2, 2), 0);
        due("33: none", x.inAll(0, 0b01101, 2, 0), NONE);
        due("32: no ring", x.trace(0, 0, 3, 0), 0);
        due("32: no fewest", x.trace(0, 0, 3, 1), NONE);
        due("32: none in all", x.trace(0, 0, 3, 2), NONE);
        due("33: no ring", x.inAll(0, 0, 3, 0), NONE);
        x.drop(0, 3);
        due("32: one ring of two", x.trace(0, 0b01101, 2, 0), 1);
        due("32: both in all", x.trace(0, 0b01101, 2, 2), 2);
        due("33: the first", x.inAll(0, 0b01101, 2, 0), 1);
        due("33: the second", x.inAll(0, 0b01101, 2, 1), 2);
        for (int i : new int[] {2, -1, -2, LOW, HIGH}) {
            due("33: i " + i, x.inAll(0, 0b01101, 2, i), NONE);
        }
        for (int s : new int[] {-1, 32, LOW, HIGH}) {
            due("32: s " + s, x.trace(0, s, 1, 0), OUTSIDE);
            due("33: s " + s, x.inAll(0, s, 1, 0), OUTSIDE);
        }
        for (int h : new int[] {0, 4, LOW, HIGH}) {
            due("32: h " + h, x.trace(0, 1, h, 0), OUTSIDE);
            due("33: h " + h, x.inAll(0, 1, h, 0), OUTSIDE);
        }
        for (int what : new int[] {-1, 3, LOW, HIGH}) {
            due("32: what " + what, x.trace(0, 1, 1, what), OUTSIDE);
        }
        PodMarks y = with(12, LOSING, 0, 0);
        y.build(0, 0, 64);
        due("33: number 63", y.inAll(0, 63, 1, 0), 63);
    }

    private void promise34() {
        PodMarks x = with(5, LOSING, 1, 0);
        addAll(x, 0, 1, 2, 4, 8);
        due("34: none", x.framed(0, 3), 0);
        x.add(0, 0);
        due("34: the bare one by two", x.framed(0, 2), 1);
        x.add(0, 0b00111);
        due("34: one by two: 1, 2, 4 and the bare one", x.framed(0, 2), 1 + 3);
        due("34: by three also 7", x.framed(0, 3), 5);
        due("34: by one none", x.framed(0, 1), 0);
        due("34: an empty list", x.framed(1, 3), 0);
        for (int h : new int[] {0, 4, LOW, HIGH}) {
            due("34: h " + h, x.framed(0, h), OUTSIDE);
        }
    }

    // ---- refusals

    private void refusals() {
        PodMarks x = with(6, LOSING, 1, 0);
        addAll(x, 0, 1, 2, 3);
        for (int l : NO_LISTS) {
            unknown(x, l);
        }
        holds("refused", x, 0, 1, 2, 3);
        due("refused: nothing more", x.count(0), 3);
    }

    /** Every other number is out of its bounds too: UNKNOWN comes first all the same. */
    private void unknown(PodMarks x, int l) {
        due("9: list " + l, x.add(l, -1), UNKNOWN);
        due("10: list " + l, x.drop(l, 0), UNKNOWN);
        due("11: list " + l, x.clear(l), UNKNOWN);
        due("12: list " + l, x.mark(l, NONE), UNKNOWN);
        due("13: list " + l, x.good(l, 9), UNKNOWN);
        due("14: list " + l, x.build(l, -1, -1), UNKNOWN);
        due("17: to " + l, x.lay(l, 0, 0, 0), UNKNOWN);
        due("17: a " + l, x.lay(0, l, 0, 0), UNKNOWN);
        due("17: b " + l, x.lay(0, 0, l, 0), UNKNOWN);
        due("18: to " + l, x.join(l, 0, 0), UNKNOWN);
        due("18: a " + l, x.join(0, l, 0), UNKNOWN);
        due("18: b " + l, x.join(0, 0, l), UNKNOWN);
        due("19: to " + l, x.shorten(l, 0, -1), UNKNOWN);
        due("19: a " + l, x.shorten(0, l, -1), UNKNOWN);
        due("20: to " + l, x.turn(l, 0), UNKNOWN);
        due("20: a " + l, x.turn(0, l), UNKNOWN);
        due("21: to " + l, x.even(l, 0, -1), UNKNOWN);
        due("21: a " + l, x.even(0, l, -1), UNKNOWN);
        due("23: to " + l, x.read(l), UNKNOWN);
        due("26: list " + l, x.owner(l, -1, -1, 0), UNKNOWN);
        due("28: list " + l, x.chance(l, 0), UNKNOWN);
        due("29: list " + l, x.likely(l, NONE), UNKNOWN);
        due("30: list " + l, x.heap(l, -1, 0, 9), UNKNOWN);
        due("31: list " + l, x.make(l, 0, 0, 0, -1), UNKNOWN);
        due("32: list " + l, x.trace(l, -1, 0, 9), UNKNOWN);
        due("33: list " + l, x.inAll(l, -1, 0, 0), UNKNOWN);
        due("34: list " + l, x.framed(l, 0), UNKNOWN);
    }
}
