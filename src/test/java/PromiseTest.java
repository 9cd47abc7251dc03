/** For each promise of the document: ordinary inputs, the edges that it names, wrong inputs. */
public final class PromiseTest {
    private static final int BAD = -1, STATE = -2, FULL = -3, NONE = -9, NO = -1000000;
    private static final int LOW = Integer.MIN_VALUE, HIGH = Integer.MAX_VALUE;
    private static final int[] WRONG_LINES = {-1, 3, LOW, HIGH};

    /** Three lines, two cords; three calls fall at 0, one at 2. */
    private static final String PLAIN =
            "l3;x2;c0 0 1 3 2;c0 1 2 5 7;c0 2 0 1 7;c2 0 2 20 9;";

    private final Check check = new Check();

    public static void main(String[] args) {
        PromiseTest t = new PromiseTest();
        t.constants();
        t.newObject1();
        t.type2();
        t.clear3();
        t.boardReads4();
        t.boardFaultsOfItems4();
        t.boardFaultsOfNumbers4();
        t.boardFaultsOfCalls4();
        t.boardTellsAllAnew4();
        t.boardForgets4();
        t.line5();
        t.call6();
        t.now7();
        t.minute8();
        t.plugs9();
        t.pulls10();
        t.swaps11();
        t.undo12();
        t.byRule13();
        t.byRuleOrders13();
        t.enough14();
        t.bestRow15();
        t.cutFor16();
        t.longCords17();
        t.change18();
        t.bestHoles19();
        t.atOnce20();
        t.under21();
        t.odds22();
        t.rate23();
        t.keep24();
        t.back25();
        t.count26();
        t.trace27();
        t.sevenCalls();
        t.nothingChangesByAsking();
        t.nothingChangesByRefusal();
        t.check.end();
    }

    private void due(String what, long got, long want) {
        check.due(what, got, want);
    }

    private static void pass(BoardCords x, int minutes) {
        for (int i = 0; i < minutes; i++) {
            x.minute();
        }
    }

    /** All that can be seen of an object without a change, in one number. */
    private static long seen(BoardCords x) {
        long sum = x.trace();
        for (int what = 0; what < 8; what++) {
            sum = 31 * sum + x.now(what);
            sum = 31 * sum + x.count(what);
            for (int i = 0; i < 7; i++) {
                sum = 31 * sum + x.line(i, what);
                sum = 31 * sum + x.call(i, what);
            }
        }
        return sum;
    }

    private void constants() {
        due("BAD", BoardCords.BAD, BAD);
        due("STATE", BoardCords.STATE, STATE);
        due("FULL", BoardCords.FULL, FULL);
        due("NONE", BoardCords.NONE, NONE);
        due("NO", BoardCords.NO, NO);
    }

    private void newObject1() {
        BoardCords x = new BoardCords();
        due("1 lines", x.count(0), 2);
        due("1 cords", x.count(1), 1);
        due("1 calls", x.count(2), 0);
        due("1 letters", x.count(3), 0);
        due("1 hole of 0", x.line(0, 0), 0);
        due("1 hole of 1", x.line(1, 0), 1);
        due("1 line 1 is free", x.line(1, 1), NONE);
        due("1 no line 2", x.line(2, 0), BAD);
        due("1 no call", x.call(0, 0), BAD);
        due("1 minute", x.now(0), 0);
        due("1 who waits", x.now(1), 0);
        due("1 who talks", x.now(2), 0);
        due("1 free cords", x.now(3), 1);
        due("1 crossed", x.now(4), 0);
        due("1 may be undone", x.now(5), 0);
        due("1 no image 0", x.back(0), STATE);
        due("1 no image 1", x.back(1), STATE);
        due("1 trace", x.trace(), 0);
    }

    private void type2() {
        BoardCords x = new BoardCords();
        due("2 least letter", x.type(0), 1);
        due("2 greatest letter", x.type(255), 2);
        due("2 below", x.type(-1), BAD);
        due("2 above", x.type(256), BAD);
        due("2 far below", x.type(LOW), BAD);
        due("2 far above", x.type(HIGH), BAD);
        due("2 no more letters by that", x.count(3), 2);
        for (int n = 3; n <= 200; n++) {
            due("2 letter " + n, x.type(' '), n);
        }
        due("2 full", x.type(' '), FULL);
        due("2 BAD comes first", x.type(256), BAD);
        due("2 200 letters", x.count(3), 200);
        x.clear();
        due("2 from the start again", x.type('l'), 1);
    }

    private void clear3() {
        BoardCords x = new BoardCords();
        due("3 none", x.clear(), 0);
        Boards.write(x, "l3;x");
        due("3 four", x.clear(), 4);
        due("3 empty then", x.count(3), 0);
        due("3 none again", x.clear(), 0);
        Boards.write(x, "l4;");
        due("3 what was cleared is not read", x.board(), 1);
        due("3 lines", x.count(0), 4);
        Boards.write(x, " ".repeat(200));
        due("3 all letters", x.clear(), 200);
    }

    private void boardReads4() {
        due("4 nothing", Boards.answer(""), 0);
        due("4 blanks alone", Boards.answer("   "), 0);
        due("4 lines", Boards.answer("l2;"), 1);
        due("4 most lines", Boards.answer("l6;"), 1);
        due("4 cords", Boards.answer("x1;"), 1);
        due("4 most cords", Boards.answer("x4;"), 1);
        due("4 a hole", Boards.answer("h0 1;"), 1);
        due("4 a hole as it is", Boards.answer("h1 1;"), 1);
        due("4 a call", Boards.answer("c0 0 1 1 0;"), 1);
        due("4 the most of all", Boards.answer("l6;c40 5 4 20 9;"), 2);
        due("4 blanks everywhere", Boards.answer("  l  3  ;  c  0  0  1  1  0  ;  "), 2);
        due("4 x behind l and c", Boards.answer("l3;c0 0 2 1 0;x2;h2 0;"), 4);
        String call = "c0 0 1 1 0;";
        due("4 seven calls", Boards.answer(call.repeat(7)), 7);
        due("4 an eighth call", Boards.answer(call.repeat(8)), -10 - 77);
        due("4 items other than calls behind seven", Boards.answer(call.repeat(7) + "x2;h0 1;"), 9);
        String longText = " ".repeat(197) + "l3;";
        due("4 a text of 200 letters", Boards.answer(longText), 1);
    }

    private void boardFaultsOfItems4() {
        due("4 another letter", Boards.answer("a"), -10);
        due("4 a capital letter", Boards.answer("L3;"), -10);
        due("4 a tab is no blank", Boards.answer("\tl3;"), -10);
        due("4 letter 0", Boards.answer("l3;\0"), -13);
        due("4 letter 160 is no blank", Boards.answer("l3;\u00a0"), -13);
        due("4 letter 255", Boards.answer("l\u00ff3;"), -11);
        due("4 a number for an item", Boards.answer("  3;"), -12);
        due("4 an end for an item", Boards.answer("l3;;"), -13);
        due("4 l behind l", Boards.answer("l3;l3;"), -13);
        due("4 l behind h", Boards.answer("h0 1; l3;"), -16);
        due("4 l behind c", Boards.answer("c0 0 1 1 0;l2;"), -21);
        due("4 x again", Boards.answer("x1;h0 1;x1;"), -18);
        due("4 no end, another item", Boards.answer("l3 x2;"), -13);
        due("4 a number too many", Boards.answer("l3 4;"), -13);
        due("4 a letter for a number", Boards.answer("l x;"), -12);
        due("4 an end for a number", Boards.answer("h0 ;"), -13);
        due("4 a minus", Boards.answer("l-3;"), -11);
        due("4 ends behind l", Boards.answer("l"), -11);
        due("4 ends behind blanks", Boards.answer("l3;h  "), -16);
        due("4 ends behind a number", Boards.answer("l3"), -12);
        due("4 ends behind a number and blanks", Boards.answer("l3  "), -14);
        due("4 ends within a call", Boards.answer("c0 0 1 1"), -18);
        due("4 the first fault of two", Boards.answer("l7;c99 9 9 9 9;?"), -11);
        due("4 a fault ahead of the end", Boards.answer("x9"), -11);
    }

    private void boardFaultsOfNumbers4() {
        due("4 one line", Boards.answer("l1;"), -11);
        due("4 seven lines", Boards.answer("l7;"), -11);
        due("4 no cord", Boards.answer("x0;"), -11);
        due("4 five cords", Boards.answer("x5;"), -11);
        due("4 a 0 ahead", Boards.answer("l03;"), -11);
        due("4 two 0", Boards.answer("h0 00;"), -13);
        due("4 above 99", Boards.answer("l 100;"), -12);
        due("4 far above 99", Boards.answer("x" + "9".repeat(150) + ";"), -11);
        due("4 beyond all ints to a fit one", Boards.answer("l4294967299;"), -11);
        due("4 two digits", Boards.answer("l10;"), -11);
        due("4 hole of a line that is not", Boards.answer("h2 0;"), -11);
        due("4 a hole that is not", Boards.answer("h0 2;"), -13);
        due("4 a hole by lines told", Boards.answer("l3;h0 2;"), 2);
        due("4 a hole beyond lines told", Boards.answer("l3;h0 3;"), -16);
        due("4 a line beyond lines told", Boards.answer("l5;h5 0;"), -14);
    }

    private void boardFaultsOfCalls4() {
        due("4 falls too late", Boards.answer("c41 0 1 1 1;"), -11);
        due("4 from no line", Boards.answer("c0 2 1 1 1;"), -13);
        due("4 to no line", Boards.answer("c0 1 2 1 1;"), -15);
        due("4 to itself", Boards.answer("c0 1 1 1 1;"), -15);
        due("4 too short", Boards.answer("c0 0 1 0 1;"), -17);
        due("4 too long", Boards.answer("c0 0 1 21 1;"), -17);
        due("4 too high", Boards.answer("c0 0 1 1 10;"), -19);
        due("4 a sixth number", Boards.answer("c0 0 1 1 1 1;"), -21);
        due("4 glued numbers are one", Boards.answer("c0 01 1 1;"), -13);
    }

    private void boardTellsAllAnew4() {
        BoardCords x = Boards.of(PLAIN);
        x.rate(0, 0);
        x.swaps(0, 2);
        x.plugs(0);
        x.minute();
        x.keep(0);
        x.keep(1);
        long before = seen(x);
        Boards.write(x, "l9;");
        due("4 a fault", x.board(), -11);
        due("4 the text stays", x.clear(), 3);
        due("4 nothing changes by a fault", seen(x), before);
        due("4 images stay", x.back(1), 1);
        due("4 nothing told", x.board(), 0);
        due("4 as at first: lines", x.count(0), 2);
        due("4 as at first: cords", x.count(1), 1);
        due("4 as at first: calls", x.count(2), 0);
        due("4 as at first: hole", x.line(0, 0), 0);
        due("4 as at first: minute", x.now(0), 0);
        due("4 nothing can be undone", x.undo(), STATE);
        due("4 image 0 is gone", x.back(0), STATE);
        due("4 image 1 is gone", x.back(1), STATE);
        due("4 the trace goes on", x.trace(), 1);
        Boards.write(x, "l3; h0 1; h0 2; c0 1 2 4 5; c1 0 2 6 7;");
        due("4 items", x.board(), 5);
        due("4 the text is empty", x.count(3), 0);
        due("4 hole of 0", x.line(0, 0), 2);
        due("4 hole of 1", x.line(1, 0), 0);
        due("4 hole of 2", x.line(2, 0), 1);
        due("4 what falls at 0 waits", x.now(1), 1);
        due("4 what falls at 1 is to come", x.call(1, 5), 0);
        x.plugs(0);
        pass(x, 2);
        Boards.write(x, "c0 0 1 9 9;");
        x.board();
        due("4 waits anew", x.call(0, 5), 1);
        due("4 nothing left", x.call(0, 6), 0);
        due("4 not waited", x.call(0, 7), 0);
        due("4 one call", x.call(1, 0), BAD);
    }

    /** Nothing of an earlier text, or of what was done by it, is left behind another one. */
    private void boardForgets4() {
        BoardCords x = new BoardCords();
        Boards.write(x, "l4;x3;h2 0;h1 3;c0 0 1 9 9;c0 2 3 9 9;");
        due("4 the first text", x.board(), 6);
        due("4 who had hole 0 has that of 2", x.line(0, 0), 2);
        due("4 who had hole 3 has that of 1", x.line(3, 0), 1);
        pass(x, 3);
        x.plugs(1);
        Boards.write(x, "x2;c0 1 0 9 9;c0 1 0 9 9;");
        due("4 x in each text", x.board(), 3);
        due("4 nothing of it can be undone", x.undo(), STATE);
        due("4 hole of 0 as at first", x.line(0, 0), 0);
        due("4 hole of 1 as at first", x.line(1, 0), 1);
        due("4 it has not waited", x.call(0, 7), 0);
        due("4 it waits, nothing is left to it", x.call(1, 6), 0);
        Boards.write(x, "l3;");
        x.clear();
        Boards.write(x, "l3");
        due("4 letters that were cleared are no end", x.board(), -12);
        x.clear();
        Boards.write(x, " ".repeat(198) + "l3");
        due("4 200 letters end too early", x.board(), -210);
    }

    private void line5() {
        BoardCords x = Boards.of("l6;x4;h0 5;c0 4 5 2 0;c0 1 2 1 0;");
        due("5 hole of 0", x.line(0, 0), 5);
        due("5 hole of 5", x.line(5, 0), 0);
        due("5 free at first", x.line(4, 1), NONE);
        x.plugs(0);
        x.plugs(1);
        due("5 from", x.line(4, 1), 0);
        due("5 to", x.line(5, 1), 0);
        due("5 another call", x.line(2, 1), 1);
        due("5 a free line", x.line(3, 1), NONE);
        x.minute();
        due("5 done", x.line(1, 1), NONE);
        due("5 talks on", x.line(5, 1), 0);
        x.pulls(0);
        due("5 cut off", x.line(5, 1), NONE);
        for (int l : new int[] {-1, 6, LOW, HIGH}) {
            due("5 no line " + l, x.line(l, 0), BAD);
        }
        for (int what : new int[] {-1, 2, LOW, HIGH}) {
            due("5 no such thing " + what, x.line(0, what), BAD);
        }
    }

    private void call6() {
        BoardCords x = Boards.of("l5;c40 4 3 20 9;c1 0 1 2 3;c0 1 2 3 4;");
        int[] last = {40, 4, 3, 20, 9, 0, 0, 0};
        for (int what = 0; what < 8; what++) {
            due("6 call 0, " + what, x.call(0, what), last[what]);
        }
        due("6 waits", x.call(2, 5), 1);
        due("6 nothing left while it waits", x.call(2, 6), 0);
        x.minute();
        due("6 waited", x.call(2, 7), 1);
        due("6 fell", x.call(1, 5), 1);
        due("6 not waited yet", x.call(1, 7), 0);
        x.plugs(1);
        due("6 talks", x.call(1, 5), 2);
        due("6 left", x.call(1, 6), 2);
        x.minute();
        due("6 one less is left", x.call(1, 6), 1);
        due("6 long stays", x.call(1, 3), 2);
        x.minute();
        due("6 done", x.call(1, 5), 3);
        due("6 nothing left when done", x.call(1, 6), 0);
        due("6 who talks does not wait", x.call(1, 7), 0);
        due("6 waited three", x.call(2, 7), 3);
        x.plugs(2);
        x.pulls(2);
        due("6 cut off", x.call(2, 5), 4);
        due("6 nothing left when cut off", x.call(2, 6), 0);
        x.minute();
        due("6 waited stays", x.call(2, 7), 3);
        for (int c : new int[] {-1, 3, LOW, HIGH}) {
            due("6 no call " + c, x.call(c, 0), BAD);
        }
        for (int what : new int[] {-1, 8, LOW, HIGH}) {
            due("6 no such thing " + what, x.call(0, what), BAD);
        }
    }

    private void now7() {
        BoardCords x = Boards.of("l6;x4;c0 0 2 2 0;c0 1 3 3 0;c0 4 5 4 0;c1 0 5 1 0;");
        due("7 waits", x.now(1), 7);
        due("7 four cords are free", x.now(3), 4);
        x.plugs(0);
        x.plugs(1);
        due("7 waits yet", x.now(1), 4);
        due("7 talk", x.now(2), 3);
        due("7 two are free", x.now(3), 2);
        due("7 0-2 and 1-3 cross", x.now(4), 1);
        x.plugs(2);
        due("7 4-5 crosses none", x.now(4), 1);
        due("7 three may be undone", x.now(5), 3);
        x.minute();
        due("7 minute", x.now(0), 1);
        due("7 call 3 fell", x.now(1), 8);
        x.minute();
        due("7 call 0 is done", x.now(2), 6);
        due("7 none cross", x.now(4), 0);
        due("7 free again", x.now(3), 2);
        BoardCords y = Boards.of("l6;x3;c0 0 3 9 0;c0 4 1 9 0;c0 2 5 9 0;");
        y.plugs(0);
        y.plugs(1);
        y.plugs(2);
        due("7 all three cross", y.now(4), 3);
        BoardCords z = Boards.of("l4;x2;c0 0 3 9 0;c0 2 1 9 0;");
        z.plugs(0);
        z.plugs(1);
        due("7 one within the other", z.now(4), 0);
        pass(z, 12);
        due("7 no more than ten", z.now(5), 10);
        for (int what : new int[] {-1, 6, LOW, HIGH}) {
            due("7 no such thing " + what, x.now(what), BAD);
        }
    }

    private void minute8() {
        BoardCords x = Boards.of("l4;x2;c0 0 1 1 0;c0 0 2 2 0;c2 2 3 1 0;");
        x.plugs(0);
        due("8 the first", x.minute(), 1);
        due("8 done by one", x.call(0, 5), 3);
        due("8 waited one", x.call(1, 7), 1);
        due("8 not fallen", x.call(2, 5), 0);
        due("8 the second", x.minute(), 2);
        due("8 falls at 2", x.call(2, 5), 1);
        due("8 has not waited", x.call(2, 7), 0);
        due("8 waited two", x.call(1, 7), 2);
        for (int m = 3; m <= 99; m++) {
            due("8 minute " + m, x.minute(), m);
        }
        due("8 no more", x.minute(), STATE);
        due("8 it stays", x.now(0), 99);
        due("8 nobody waited by that", x.call(1, 7), 99);
        BoardCords y = Boards.of("c40 0 1 1 0;");
        pass(y, 39);
        due("8 to come at 39", y.now(1), 0);
        y.minute();
        due("8 waits at 40", y.now(1), 1);
    }

    private void plugs9() {
        BoardCords x = Boards.of("l6;x2;c0 0 1 3 0;c0 1 2 3 0;c0 2 3 3 0;c0 4 5 3 0;c1 4 5 3 0;");
        due("9 one is free yet", x.plugs(0), 1);
        due("9 left is long", x.call(0, 6), 3);
        due("9 talks already", x.plugs(0), STATE);
        due("9 a line is engaged", x.plugs(1), STATE);
        due("9 to come", x.plugs(4), STATE);
        due("9 none is free yet", x.plugs(2), 0);
        due("9 no cord", x.plugs(3), STATE);
        due("9 refused: nothing changes", x.now(5), 2);
        pass(x, 3);
        due("9 done", x.plugs(0), STATE);
        due("9 free again", x.plugs(1), 1);
        x.pulls(1);
        due("9 cut off", x.plugs(1), STATE);
        due("9 behind waiting", x.plugs(4), 1);
        due("9 the same lines", x.plugs(3), STATE);
        for (int c : new int[] {-1, 5, 7, LOW, HIGH}) {
            due("9 no call " + c, x.plugs(c), BAD);
        }
        BoardCords y = Boards.of("l3;x4;c0 0 1 3 0;c0 2 1 3 0;c0 2 0 3 0;");
        y.plugs(0);
        due("9 the line called is engaged", y.plugs(1), STATE);
        due("9 the line called from is engaged", y.plugs(2), STATE);
    }

    private void pulls10() {
        BoardCords x = Boards.of("l4;x2;c0 0 1 7 0;c0 2 3 1 0;c9 2 3 1 0;");
        due("10 waits", x.pulls(0), STATE);
        due("10 to come", x.pulls(2), STATE);
        x.plugs(0);
        x.plugs(1);
        pass(x, 1);
        due("10 done", x.pulls(1), STATE);
        pass(x, 1);
        due("10 what was left", x.pulls(0), 5);
        due("10 cut off", x.call(0, 5), 4);
        due("10 the cord is free", x.now(3), 2);
        due("10 cut off already", x.pulls(0), STATE);
        for (int c : new int[] {-1, 3, LOW, HIGH}) {
            due("10 no call " + c, x.pulls(c), BAD);
        }
    }

    private void swaps11() {
        BoardCords x = Boards.of("l5;x2;h0 4;c0 0 1 2 0;");
        due("11 the hole of the first then", x.swaps(0, 2), 2);
        due("11 of the other one", x.line(2, 0), 4);
        due("11 the other way about", x.swaps(3, 0), 2);
        x.plugs(0);
        due("11 the first is engaged", x.swaps(0, 2), STATE);
        due("11 the second is engaged", x.swaps(2, 1), STATE);
        due("11 BAD comes first", x.swaps(0, 0), BAD);
        due("11 BAD of one engaged comes first", x.swaps(0, 5), BAD);
        due("11 others may", x.swaps(2, 3), 2);
        due("11 one and the same", x.swaps(2, 2), BAD);
        for (int l : new int[] {-1, 5, LOW, HIGH}) {
            due("11 no first line " + l, x.swaps(l, 2), BAD);
            due("11 no second line " + l, x.swaps(2, l), BAD);
        }
        due("11 one behind another may be undone", x.now(5), 4);
    }

    private void undo12() {
        BoardCords x = Boards.of("l4;x2;c0 0 1 3 0;c1 2 3 1 0;");
        due("12 none", x.undo(), STATE);
        long atFirst = seen(x);
        x.plugs(0);
        x.plugs(0);
        x.minute();
        x.pulls(0);
        x.swaps(0, 3);
        due("12 refused ones do not count", x.now(5), 4);
        due("12 swaps", x.undo(), 3);
        due("12 the hole", x.line(0, 0), 0);
        due("12 pulls", x.undo(), 2);
        due("12 talks again", x.call(0, 5), 2);
        due("12 left again", x.call(0, 6), 2);
        due("12 minute", x.undo(), 1);
        due("12 minute is 0", x.now(0), 0);
        due("12 to come again", x.call(1, 5), 0);
        due("12 left again", x.call(0, 6), 3);
        due("12 plugs", x.undo(), 0);
        due("12 as at first", seen(x), atFirst);
        due("12 none more", x.undo(), STATE);
        pass(x, 25);
        for (int known = 9; known >= 0; known--) {
            due("12 of ten, " + known + " more", x.undo(), known);
        }
        due("12 older ones are lost", x.undo(), STATE);
        due("12 ten minutes ago", x.now(0), 15);
        due("12 waited less", x.call(0, 7), 15);
        x.minute();
        x.undo();
        x.minute();
        due("12 undo and again", x.now(5), 1);
        x.keep(0);
        x.rate(0, 0);
        due("12 keep and rate are not undone", x.undo(), 0);
        due("12 the trace goes on", x.trace(), 1);
        due("12 the image stays", x.back(0), 16);
    }

    private void byRule13() {
        BoardCords x = Boards.of("l4;c0 0 1 4 1;c0 2 3 2 5;c3 0 2 1 9;");
        due("13 no minute: none done", x.byRule(0, 0, 0), 0);
        due("13 no minute: none waited", x.byRule(0, 0, 1), 0);
        due("13 no minute: no first", x.byRule(0, 0, 2), NONE);
        due("13 ahead of the first end", x.byRule(0, 3, 0), 0);
        due("13 at the first end", x.byRule(0, 4, 0), 1);
        due("13 the first", x.byRule(0, 4, 2), 0);
        // 0 from 0 to 4; 1 from 4 to 6; 2 fell at 3, from 6 to 7
        due("13 all done", x.byRule(0, 60, 0), 3);
        due("13 all waited", x.byRule(0, 60, 1), 7);
        due("13 ahead of the last", x.byRule(0, 6, 0), 2);
        // by rank: 1 from 0 to 2; 0 from 2 to 6; 2 from 6 to 7
        due("13 the higher first", x.byRule(1, 60, 2), 1);
        due("13 the higher first, waited", x.byRule(1, 60, 1), 5);
        due("13 the shorter first", x.byRule(2, 60, 2), 1);
        x.plugs(1);
        pass(x, 2);
        due("13 done ahead of now counts", x.byRule(0, 0, 0), 1);
        due("13 waited ahead of now counts", x.byRule(0, 0, 1), 2);
        due("13 done ahead of now is not the first", x.byRule(0, 3, 2), NONE);
        due("13 the first behind now", x.byRule(0, 4, 2), 0);
        x.plugs(0);
        x.pulls(0);
        due("13 cut off is not done", x.byRule(0, 60, 0), 2);
        due("13 cut off has waited", x.byRule(0, 60, 1), 2);
        for (int wrong : new int[] {-1, 61, LOW, HIGH}) {
            due("13 no rule " + wrong, x.byRule(wrong, 0, 0), BAD);
            due("13 no minutes " + wrong, x.byRule(0, wrong, 0), BAD);
            due("13 no such thing " + wrong, x.byRule(0, 0, wrong), BAD);
        }
        due("13 no rule 3", x.byRule(3, 0, 0), BAD);
        due("13 no thing 3", x.byRule(0, 0, 3), BAD);
    }

    private void byRuleOrders13() {
        BoardCords fell = Boards.of("l2;c2 0 1 1 0;c1 0 1 1 0;c1 0 1 2 9;c0 0 1 5 9;");
        pass(fell, 2);
        due("13 who fell first", fell.byRule(0, 5, 2), 3);
        due("13 not done by one minute", fell.byRule(1, 1, 2), NONE);
        due("13 rank 9 by number: the lower one", fell.byRule(1, 2, 2), 2);
        due("13 rank 9 by number: that one alone", fell.byRule(1, 6, 0), 1);
        due("13 then the other one of rank 9", fell.byRule(1, 7, 0), 2);
        due("13 the shorter, by number", fell.byRule(2, 1, 2), 0);
        BoardCords twice = Boards.of("l4;x2;c0 2 3 2 0;c0 0 1 2 9;");
        due("13 of several at once the lowest number", twice.byRule(1, 60, 2), 0);
        BoardCords by = Boards.of("l4;x2;c0 0 1 5 0;c0 0 2 5 0;c0 2 3 1 0;");
        due("13 who can not be plugged is passed over", by.byRule(0, 1, 0), 1);
        BoardCords late = Boards.of("l2;c0 0 1 20 0;c0 0 1 20 0;c0 0 1 20 0;");
        pass(late, 99);
        due("13 past minute 99", late.byRule(0, 60, 0), 3);
        due("13 waited past minute 99", late.byRule(0, 60, 1), 3 * 99 + 20 + 40);
        due("13 fell within the day", Boards.of("c40 0 1 20 0;").byRule(0, 60, 0), 1);
        due("13 not done in 59", Boards.of("c40 0 1 20 0;").byRule(0, 59, 0), 0);
        due("13 no calls", new BoardCords().byRule(2, 60, 1), 0);
        BoardCords talks = Boards.of("l2;c0 0 1 9 0;c0 0 1 9 0;");
        talks.plugs(1);
        pass(talks, 2);
        due("13 who talks goes on", talks.byRule(0, 6, 0), 0);
        due("13 who talks is done first", talks.byRule(0, 7, 2), 1);
        due("13 who waits is not plugged meanwhile", talks.byRule(0, 60, 1), 9);
    }

    private void enough14() {
        due("14 no calls", new BoardCords().enough(0), 1);
        String three = "l6;c0 0 1 2 0;c0 2 3 2 0;c0 4 5 2 0;";
        due("14 three at once", Boards.of(three).enough(0), 3);
        due("14 whatever cords there are", Boards.of("l6;x4;" + three.substring(3)).enough(1), 3);
        due("14 one line engaged is no want", Boards.of("l3;c0 0 1 9 0;c0 1 2 9 0;").enough(0), 1);
        due("14 one behind another", Boards.of("l4;c0 0 1 2 0;c2 2 3 2 0;").enough(2), 1);
        due("14 one minute in common", Boards.of("l4;c0 0 1 3 0;c2 2 3 2 0;").enough(2), 2);
        // 0-1 ahead of 0-2 leaves 0-2 and 1-3, which do not hinder one another
        BoardCords ranks = Boards.of("l4;c0 0 1 2 0;c0 0 2 2 5;c2 1 3 2 0;");
        due("14 who came first", ranks.enough(0), 2);
        due("14 the higher first", ranks.enough(1), 1);
        due("14 none is shorter", ranks.enough(2), 2);
        due("14 call 0 wants one", Boards.of("l4;c0 0 1 2 0;c0 2 3 2 5;").enough(1), 2);
        BoardCords lengths = Boards.of("l4;c0 0 1 2 0;c0 0 2 1 0;c1 1 3 2 0;");
        due("14 all of one rank", lengths.enough(1), 2);
        due("14 the shorter first", lengths.enough(2), 1);
        due("14 the last falls at 40", Boards.of("l4;c40 0 1 1 0;c40 2 3 1 0;").enough(0), 2);
        // 0-2 and 1-3 can be plugged only when all of 0-1 are done: by then one wants a cord
        String then = "c0 0 2 1 0;c0 1 3 1 0;";
        due("14 in the last minute", Boards.of("l4;c0 0 1 20 0;c0 0 1 20 0;c0 0 1 19 0;" + then)
                .enough(0), 2);
        due("14 behind 60 minutes", Boards.of("l4;c0 0 1 20 0;c0 0 1 20 0;c0 0 1 20 0;" + then)
                .enough(0), 1);
        BoardCords x = Boards.of("l4;x2;c0 0 1 5 0;c0 2 3 5 0;");
        x.plugs(0);
        x.plugs(1);
        due("14 nobody waits", x.enough(0), 1);
        x.pulls(1);
        due("14 cut off does not wait", x.enough(0), 1);
        BoardCords late = Boards.of("l4;c0 0 1 5 0;c0 2 3 5 0;");
        pass(late, 99);
        due("14 past minute 99", late.enough(0), 2);
        for (int rule : new int[] {-1, 3, LOW, HIGH}) {
            due("14 no rule " + rule, x.enough(rule), BAD);
        }
    }

    private void bestRow15() {
        BoardCords none = new BoardCords();
        due("15 nobody waits", none.bestRow(-1), 0);
        due("15 nobody is first", none.bestRow(0), -5);
        due("15 far behind", none.bestRow(HIGH), -5);
        BoardCords x = Boards.of("l2;c0 0 1 5 0;c0 0 1 1 0;c0 0 1 3 0;c1 0 1 1 0;");
        due("15 the shorter first", x.bestRow(-1), 1 + 4);
        due("15 first", x.bestRow(0), 1);
        due("15 second", x.bestRow(1), 2);
        due("15 third", x.bestRow(2), 0);
        due("15 who falls later is not in it", x.bestRow(3), -5);
        x.minute();
        due("15 waited ahead of now", x.bestRow(-1), 3 + 1 + 2 + 5);
        due("15 who fell since", x.bestRow(1), 3);
        due("15 four now", x.bestRow(3), 0);
        due("15 five are not", x.bestRow(4), -5);
        for (int k : new int[] {-2, -5, LOW}) {
            due("15 no such thing " + k, x.bestRow(k), BAD);
        }
        BoardCords alike = Boards.of("l2;c0 0 1 2 0;c0 0 1 2 9;c0 0 1 2 5;");
        due("15 of several the first: 0", alike.bestRow(0), 0);
        due("15 of several the first: 1", alike.bestRow(1), 1);
        due("15 of several the first: 2", alike.bestRow(2), 2);
        // the call that talks holds the cord for 4 minutes; then 2 ahead of 1
        BoardCords talks = Boards.of("l4;c0 0 1 4 0;c0 2 3 9 0;c0 1 2 2 0;");
        talks.plugs(0);
        due("15 who talks first ends", talks.bestRow(-1), 4 + 6);
        due("15 then the shorter", talks.bestRow(0), 2);
        // 1 can not be plugged beside 0, but 2 behind it can
        BoardCords over = Boards.of("l4;x2;c0 0 1 3 0;c0 0 2 3 0;c0 2 3 1 0;");
        due("15 passed over", over.bestRow(-1), 3);
        due("15 the rest may be plugged", over.bestRow(1), 1);
        // 1 and 3 at 0, beside 1 not 2; 0 at 2, when 3 ends; 2 at 4, when 1 ends
        BoardCords two = Boards.of("l6;x2;c0 0 1 9 0;c0 2 3 4 0;c0 3 4 5 0;c0 4 5 2 0;");
        due("15 two cords", two.bestRow(-1), 2 + 4);
        int[] row = {1, 2, 3, 0};
        for (int k = 0; k < 4; k++) {
            due("15 two cords, " + k, two.bestRow(k), row[k]);
        }
        BoardCords last = Boards.of("c0 0 1 7 0;c0 0 1 6 0;c0 0 1 5 0;c0 0 1 4 0;c0 0 1 3 0;"
                + "c0 0 1 2 0;c0 0 1 1 0;");
        due("15 the last of all rows", last.bestRow(-1), 1 + 3 + 6 + 10 + 15 + 21);
        for (int k = 0; k < 7; k++) {
            due("15 the last of all rows, " + k, last.bestRow(k), 6 - k);
        }
        BoardCords slow = Boards.of("l2;c0 0 1 20 0;c0 0 1 20 0;c0 0 1 20 0;");
        due("15 thirty minutes, no more", slow.bestRow(-1), 20 + 30);
        pass(slow, 99);
        due("15 past minute 99", slow.bestRow(-1), 3 * 99 + 50);
        BoardCords others = Boards.of("l4;x2;c0 0 1 1 0;c0 0 2 9 0;");
        pass(others, 3);
        others.plugs(0);
        due("15 only those who wait", others.bestRow(-1), 3 + 1);
    }

    private void cutFor16() {
        BoardCords x = Boards.of("l6;x3;c0 0 1 9 0;c0 2 3 4 0;c0 4 5 6 0;c0 1 2 1 0;c0 0 1 1 0;"
                + "c9 0 1 1 0;");
        due("16 nobody need be", x.cutFor(0), 0);
        x.plugs(0);
        due("16 it talks", x.cutFor(0), STATE);
        due("16 to come", x.cutFor(5), STATE);
        due("16 its line", x.cutFor(3), 1);
        due("16 both its lines, one call", x.cutFor(4), 1);
        x.plugs(1);
        due("16 two calls", x.cutFor(3), 3);
        due("16 another line", x.cutFor(2), 0);
        x.pulls(1);
        due("16 cut off", x.cutFor(1), STATE);
        for (int c : new int[] {-1, 6, LOW, HIGH}) {
            due("16 no call " + c, x.cutFor(c), BAD);
        }
        BoardCords y = Boards.of("l6;x2;c0 0 1 9 0;c0 2 3 4 0;c0 4 5 6 0;c0 4 0 1 0;");
        y.plugs(0);
        y.plugs(1);
        due("16 to whom least is left", y.cutFor(2), 2);
        due("16 its line, though more is left", y.cutFor(3), 1);
        BoardCords z = Boards.of("l6;x2;c0 0 1 4 0;c0 2 3 4 0;c0 4 5 6 0;");
        z.plugs(1);
        z.plugs(0);
        due("16 the least bits", z.cutFor(2), 1);
        pass(z, 4);
        due("16 done", z.cutFor(0), STATE);
        due("16 free again", z.cutFor(2), 0);
    }

    private void longCords17() {
        due("17 no calls", new BoardCords().longCords(), 0);
        BoardCords x = Boards.of("l6;x2;h0 5;c0 0 5 1 0;c40 5 2 1 0;c0 3 4 1 0;");
        due("17 in all", x.longCords(), 5 + 2 + 1);
        x.swaps(0, 3);
        due("17 by holes now", x.longCords(), 3 + 2 + 1);
        x.plugs(0);
        x.minute();
        due("17 done ones, too", x.longCords(), 6);
        x.plugs(2);
        x.pulls(2);
        due("17 cut off ones, too", x.longCords(), 6);
    }

    private void change18() {
        due("18 no calls", new BoardCords().change(), NONE);
        due("18 shortest already", Boards.of("l3;c0 0 1 1 0;").change(), NONE);
        due("18 0 and 1", Boards.of("l3;c0 0 2 1 0;").change(), 1);
        due("18 the lesser first", Boards.of("l5;c0 0 2 1 0;c0 2 1 1 0;c0 1 3 1 0;"
                + "c0 3 4 1 0;").change(), 12);
        due("18 the shortest, not the first shorter", Boards.of("l6;c0 1 5 1 0;c0 1 4 1 0;"
                + "c0 5 4 1 0;c0 2 0 1 0;").change(), 13);
        BoardCords x = Boards.of("l6;x2;c0 0 5 1 0;");
        due("18 of several the first", x.change(), 4);
        x.plugs(0);
        due("18 engaged lines, too", x.change(), 4);
    }

    private void bestHoles19() {
        BoardCords none = new BoardCords();
        due("19 no calls: the least", none.bestHoles(-1), 0);
        due("19 no calls: 0", none.bestHoles(0), 0);
        due("19 no calls: 1", none.bestHoles(1), 1);
        // a star about line 3: 0 and 1 beside it, then 2
        BoardCords x = Boards.of("l4;h0 3;c0 3 0 1 0;c0 1 3 1 0;c0 3 2 1 0;");
        due("19 a star", x.bestHoles(-1), 4);
        int[] star = {0, 1, 3, 2};
        for (int l = 0; l < 4; l++) {
            due("19 a star, hole of " + l, x.bestHoles(l), star[l]);
        }
        // a way round all six lines costs 10 by any turn of it
        BoardCords y = Boards.of("l6;c0 0 2 1 0;c0 2 4 1 0;c0 4 1 1 0;c0 1 3 1 0;c0 3 5 1 0;"
                + "c0 5 0 1 0;");
        due("19 a ring", y.bestHoles(-1), 10);
        int[] ring = {0, 3, 1, 4, 2, 5};
        for (int l = 0; l < 6; l++) {
            due("19 a ring, hole of " + l, y.bestHoles(l), ring[l]);
        }
        for (int l : new int[] {-2, 6, LOW, HIGH}) {
            due("19 no line " + l, y.bestHoles(l), BAD);
        }
        due("19 no line 2", none.bestHoles(2), BAD);
    }

    private void atOnce20() {
        due("20 no calls: minute", new BoardCords().atOnce(0), 0);
        due("20 no calls: how many", new BoardCords().atOnce(1), 0);
        BoardCords x = Boards.of("c40 0 1 1 0;c7 0 1 1 0;c40 0 1 1 0;c3 1 0 1 0;");
        due("20 the minute", x.atOnce(0), 40);
        due("20 how many", x.atOnce(1), 2);
        BoardCords y = Boards.of("c9 0 1 1 0;c5 0 1 1 0;c9 0 1 1 0;c5 1 0 1 0;");
        due("20 the first", y.atOnce(0), 5);
        due("20 of two each", y.atOnce(1), 2);
        BoardCords z = Boards.of("c9 0 1 1 0;c0 0 1 1 0;c0 0 1 1 0;");
        due("20 at minute 0", z.atOnce(0), 0);
        due("20 how many at minute 0", z.atOnce(1), 2);
        pass(y, 12);
        due("20 gone by, too", y.atOnce(0), 5);
        for (int what : new int[] {-1, 2, LOW, HIGH}) {
            due("20 no such thing " + what, y.atOnce(what), BAD);
        }
    }

    private void under21() {
        BoardCords x = Boards.of("l6;x3;c0 0 3 2 0;c0 1 4 9 0;c0 2 5 9 0;c0 5 0 1 0;c0 2 3 1 0;"
                + "c9 0 5 1 0;");
        due("21 nobody talks", x.under(0), 0);
        x.plugs(0);
        x.plugs(1);
        due("21 it crosses another one", x.under(0), 2);
        due("21 both, as it waits", x.under(2), 3);
        x.plugs(2);
        due("21 not itself", x.under(2), 3);
        due("21 around all", x.under(3), 0);
        due("21 to come", x.under(5), 0);
        due("21 a line in common does not cross", x.under(4), 0);
        pass(x, 2);
        due("21 who is done has no cord", x.under(1), 4);
        due("21 though it is done", x.under(0), 6);
        x.pulls(1);
        due("21 who is cut off has none", x.under(0), 4);
        x.swaps(0, 3);
        due("21 by its holes", x.under(0), 4);
        x.swaps(0, 1);
        due("21 by other holes", x.under(0), 0);
        for (int c : new int[] {-1, 6, LOW, HIGH}) {
            due("21 no call " + c, x.under(c), BAD);
        }
    }

    private void fraction(BoardCords x, int[] lpm, int upper, int lower) {
        String what = "22 odds " + lpm[0] + " " + lpm[1] + " " + lpm[2];
        due(what + " upper", x.odds(lpm[0], lpm[1], lpm[2], 0), upper);
        due(what + " lower", x.odds(lpm[0], lpm[1], lpm[2], 1), lower);
    }

    private void odds22() {
        BoardCords x = Boards.of("l3;x2;c0 0 1 20 0;");
        fraction(x, new int[] {0, 0, 0}, 1, 1);
        x.plugs(0);
        fraction(x, new int[] {0, 0, 0}, 0, 1);
        fraction(x, new int[] {0, 0, 19}, 0, 1);
        fraction(x, new int[] {0, 0, 20}, 1, 1);
        fraction(x, new int[] {1, 10, 20}, 0, 1);
        fraction(x, new int[] {1, 10, 39}, 0, 1);
        fraction(x, new int[] {1, 10, 40}, 1, 1);
        fraction(x, new int[] {2, 10, 0}, 1, 1);
        int[] upper = {1, 9, 4, 7, 3, 1, 2, 3, 1, 1, 0};
        int[] lower = {1, 10, 5, 10, 5, 2, 5, 10, 5, 10, 1};
        for (int p = 0; p <= 10; p++) {
            fraction(x, new int[] {0, p, 30}, upper[p], lower[p]);
        }
        pass(x, 17);
        fraction(x, new int[] {0, 3, 2}, 0, 1);
        fraction(x, new int[] {0, 3, 3}, 7, 10);
        fraction(x, new int[] {0, 3, 5}, 7, 10);
        fraction(x, new int[] {0, 3, 6}, 1, 1);
        for (int wrong : WRONG_LINES) {
            due("22 no line " + wrong, x.odds(wrong, 0, 0, 0), BAD);
        }
        for (int wrong : new int[] {-1, 41, LOW, HIGH}) {
            due("22 no part of ten " + wrong, x.odds(0, wrong, 0, 0), BAD);
            due("22 no minutes " + wrong, x.odds(0, 0, wrong, 0), BAD);
            due("22 no such thing " + wrong, x.odds(0, 0, 0, wrong), BAD);
        }
        due("22 eleven of ten", x.odds(0, 11, 0, 0), BAD);
        due("22 no thing 2", x.odds(0, 0, 0, 2), BAD);
    }

    private void rate23() {
        BoardCords x = Boards.of("l6;x2;h0 5;c0 1 2 1 4;c0 0 5 20 3;");
        pass(x, 6);
        int[] rates = {3, 3 + 6, 3 - 20, 2 * (3 + 6), 3 - 20 + 1, 3 + 5};
        long[] traces = {1, 11, 101, 1011, 10101, 100001};
        long trace = 0;
        for (int kind = 0; kind < 6; kind++) {
            due("23 kind " + kind, x.rate(kind, 1), rates[kind]);
            trace += traces[kind];
            due("23 trace behind kind " + kind, x.trace(), trace);
        }
        due("23 number 0 adds nothing", x.rate(4, 0), 4 - 1);
        x.swaps(0, 1);
        due("23 by holes now", x.rate(5, 1), 3 + 1);
        for (int wrong : new int[] {-1, 6, LOW, HIGH}) {
            due("23 no kind " + wrong, x.rate(wrong, 0), NO);
            due("23 no call " + wrong, x.rate(0, wrong), NO);
        }
        due("23 no call 2", x.rate(5, 2), NO);
    }

    private void keep24() {
        BoardCords x = Boards.of(PLAIN);
        due("24 at once", x.keep(0), 0);
        pass(x, 5);
        due("24 the minute", x.keep(1), 5);
        due("24 over another", x.keep(0), 5);
        due("24 the newer one", x.back(0), 5);
        for (int image : new int[] {-1, 2, LOW, HIGH}) {
            due("24 no image " + image, x.keep(image), BAD);
        }
    }

    private void back25() {
        BoardCords x = Boards.of(PLAIN);
        due("25 none was kept", x.back(0), STATE);
        x.swaps(0, 2);
        x.minute();
        x.plugs(2);
        long kept = seen(x);
        x.keep(1);
        due("25 the other was not kept", x.back(0), STATE);
        due("25 refused: undo stays", x.now(5), 3);
        pass(x, 3);
        x.swaps(0, 1);
        Boards.write(x, "abc");
        due("25 the minute", x.back(1), 1);
        due("25 the text is not in it", x.clear(), 3);
        due("25 nothing can be undone", x.undo(), STATE);
        x.undo();
        BoardCords same = Boards.of(PLAIN);
        same.swaps(0, 2);
        same.minute();
        same.plugs(2);
        same.keep(0);
        same.back(0);
        due("25 all as it was", seen(x), seen(same));
        due("25 but for undo", kept == seen(x) ? 1 : 0, 0);
        x.rate(1, 0);
        pass(x, 2);
        due("25 again", x.back(1), 1);
        due("25 the trace goes on", x.trace(), 11);
        due("25 talks as then", x.call(2, 6), 1);
        due("25 waited as then", x.call(0, 7), 1);
        for (int image : new int[] {-1, 2, LOW, HIGH}) {
            due("25 no image " + image, x.back(image), BAD);
        }
    }

    private void count26() {
        BoardCords x = Boards.of("l5;x3;c0 0 1 1 1;c1 1 0 1 1;");
        Boards.write(x, "l3;x");
        due("26 lines", x.count(0), 5);
        due("26 cords", x.count(1), 3);
        due("26 calls", x.count(2), 2);
        due("26 letters", x.count(3), 4);
        x.plugs(0);
        x.pulls(0);
        due("26 cords, all of them", x.count(1), 3);
        due("26 calls, all of them", x.count(2), 2);
        for (int what : new int[] {-1, 4, LOW, HIGH}) {
            due("26 no such thing " + what, x.count(what), BAD);
        }
    }

    private void trace27() {
        BoardCords x = Boards.of(PLAIN);
        due("27 at first", x.trace(), 0);
        x.rate(6, 0);
        x.rate(0, 9);
        due("27 not by what is refused", x.trace(), 0);
        for (int i = 0; i < 400; i++) {
            x.rate(5, 0);
        }
        due("27 400 times", x.trace(), 400L * 100001);
        x.board();
        due("27 goes on behind board()", x.trace(), 400L * 100001);
    }

    /** As many of all as there may be: whatever goes one too far goes beyond all rows. */
    private void sevenCalls() {
        BoardCords x = Boards.of("l6;x4;c0 0 1 1 1;c0 2 3 2 2;c0 4 5 3 3;c0 0 2 4 4;c0 1 3 5 5;"
                + "c0 2 4 6 6;c0 3 5 7 9;");
        due("all wait", x.now(1), 127);
        due("all are done", x.byRule(0, 60, 0), 7);
        due("beside 6 and 5 there is room for 0", x.byRule(1, 1, 2), 0);
        due("three cords are enough", x.enough(0), 3);
        due("all are in the row", x.bestRow(6) >= 0 ? 1 : 0, 1);
        due("no eighth one in the row", x.bestRow(7), -5);
        due("the last one can be plugged", x.plugs(6), 3);
        due("the last one's line", x.line(5, 1), 6);
        due("another line", x.line(4, 1), NONE);
        due("cut the last one", x.cutFor(2), 64);
        due("under the last one", x.under(5), 64);
        due("the last one crosses none", x.now(4), 0);
        due("all cords", x.longCords(), 1 + 1 + 1 + 2 + 2 + 2 + 2);
        due("all at once", x.atOnce(1), 7);
        due("another minute", x.minute(), 1);
        due("all but one waited", x.byRule(0, 0, 1), 6);
        due("the last one's number is added", x.rate(4, 6), 9 - 7 + 6);
        due("what was left to the last one", x.pulls(6), 6);
    }

    private void nothingChangesByAsking() {
        BoardCords x = Boards.of(PLAIN);
        x.minute();
        x.plugs(1);
        long before = seen(x);
        for (int i = 0; i < 3; i++) {
            x.byRule(i, 60, i);
            x.enough(i);
            x.bestRow(i - 1);
            x.cutFor(i);
            x.longCords();
            x.change();
            x.bestHoles(i - 1);
            x.atOnce(i);
            x.under(i);
            x.odds(i, 5, 5, 0);
        }
        due("nothing changes by asking", seen(x), before);
    }

    private void nothingChangesByRefusal() {
        BoardCords x = Boards.of(PLAIN);
        x.plugs(1);
        x.keep(0);
        long before = seen(x);
        x.type(256);
        x.plugs(0);
        x.plugs(9);
        x.pulls(0);
        x.pulls(-1);
        x.swaps(0, 1);
        x.swaps(0, 0);
        x.keep(2);
        x.back(1);
        x.back(2);
        x.rate(9, 0);
        due("nothing changes by what is refused", seen(x), before);
    }
}
