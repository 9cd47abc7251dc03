/**
 * The edges of the board and of what is done (promises 1 and 5 to 12): above each test stands the
 * sentence of the document that it is for.
 */
public final class BoardEdgeTest {
    private static final int BAD = -1, STATE = -2, NONE = -9;
    private static final int TO_COME = 0, WAITS = 1, TALKS = 2, DONE = 3, CUT_OFF = 4;
    private static final Past BUSY = Edges.busy();

    private final Check check = new Check();

    public static void main(String[] args) {
        BoardEdgeTest t = new BoardEdgeTest();
        t.newObject();
        t.linesToNLessOne();
        t.holesAtFirst();
        t.holesAreUnlike();
        t.lineWhat();
        t.engagedByNone();
        t.callsToTheLast();
        t.callWhat();
        t.howACallIs();
        t.leftOnlyWhileItTalks();
        t.nowWhat();
        t.cordsThatAreFree();
        t.bitsOfAll();
        t.crossed();
        t.crossedByALineInCommon();
        t.minute99();
        t.waitsFromTheMinuteOn();
        t.talksForSoLong();
        t.waitedByMinutes();
        t.plugsNoSuchCall();
        t.plugsWhatDoesNotWait();
        t.plugsWithoutACord();
        t.plugsAnEngagedLine();
        t.pullsNoSuchCall();
        t.pullsWhatDoesNotTalk();
        t.pullsLeft();
        t.swapsNoSuchLine();
        t.swapsOneAndTheSame();
        t.swapsEngagedLines();
        t.swapsBadAheadOfState();
        t.swapsAll();
        t.undoNone();
        t.undoTenAtMost();
        t.undoLosesTheOldest();
        t.undoTakesAllBack();
        t.undoOfWhatWasNotRefused();
        t.undoLeavesTheRest();
        t.check.end();
    }

    // "BoardCords(): As told; two LINES, no CALLS."
    private void newObject() {
        check.same("a new object is as an empty text tells", Past.NONE, Past.board(""));
        check.same("and as all of it told", Past.NONE, Past.board("l2;x1;h0 0;h1 1;"));
        BoardCords x = new BoardCords();
        int[] now = {0, 0, 0, 1, 0, 0};
        int[] count = {2, 1, 0, 0};
        for (int what = 0; what < 6; what++) {
            check.due("now " + what, x.now(what), now[what]);
        }
        for (int what = 0; what < 4; what++) {
            check.due("count " + what, x.count(what), count[what]);
        }
        check.due("trace", x.trace(), 0);
        check.due("undo", x.undo(), STATE);
        check.due("image 0", x.back(0), STATE);
        check.due("image 1", x.back(1), STATE);
        check.due("no call", x.call(0, 0), BAD);
    }

    // "LINES 0 .. n - 1 (2 .. 6; 2 at first)"; "Of a LINE: .. BAD."
    private void linesToNLessOne() {
        for (int lines = 2; lines <= 6; lines++) {
            BoardCords x = Edges.waiting(lines, 1).object();
            for (int what = 0; what <= 1; what++) {
                int asked = what;
                check.holds("lines of " + lines, Edges.holdsJustFor(0, lines - 1,
                        l -> x.line(l, asked) != BAD));
            }
        }
        check.holds("lines at first", Edges.holdsJustFor(0, 1,
                l -> new BoardCords().line(l, 0) != BAD));
        for (int l : Edges.outside(0, 5)) {
            check.changesNothing("line " + l, BUSY, x -> x.line(l, 0), BAD);
            check.changesNothing("line " + l, BUSY, x -> x.line(l, 1), BAD);
        }
    }

    // "each has a HOLE (0 .. 5, ..; that of its number at first)"
    private void holesAtFirst() {
        for (int lines = 2; lines <= 6; lines++) {
            BoardCords x = Boards.of("l" + lines + ";");
            for (int l = 0; l < lines; l++) {
                check.due("hole of " + l + " of " + lines, x.line(l, 0), l);
            }
        }
    }

    // "each has a HOLE (0 .. 5, unlike ..)": however they are told and swapped
    private void holesAreUnlike() {
        for (int a = 0; a < 6; a++) {
            for (int h = 0; h < 6; h++) {
                BoardCords x = Boards.of("l6;h2 4;h" + a + " " + h + ";");
                check.due("hole as told", x.line(a, 0), h);
                check.due("all holes once", holesOf(x), 63);
                x.swaps(a, (a + 1 + h % 5) % 6);
                check.due("all holes once, swapped", holesOf(x), 63);
            }
        }
    }

    private static int holesOf(BoardCords x) {
        int bits = 0;
        for (int l = 0; l < x.count(0); l++) {
            bits |= 1 << x.line(l, 0);
        }
        return bits;
    }

    // "0 its HOLE, 1 which CALL it is ENGAGED by (NONE). BAD."
    private void lineWhat() {
        for (int what : Edges.outside(0, 1)) {
            check.changesNothing("line 0, " + what, BUSY, x -> x.line(0, what), BAD);
            check.changesNothing("line 6, " + what, BUSY, x -> x.line(6, what), BAD);
        }
        check.changesNothing("a hole", BUSY, x -> x.line(0, 0), 5);
        check.changesNothing("an engaged line", BUSY, x -> x.line(5, 1), 3);
    }

    // "(NONE)": a line is engaged just as long as its call talks
    private void engagedByNone() {
        BoardCords x = Boards.of("l6;x4;c0 0 5 2 0;c0 0 5 2 0;");
        check.due("waits", x.line(0, 1), NONE);
        x.plugs(1);
        check.due("from", x.line(0, 1), 1);
        check.due("to", x.line(5, 1), 1);
        for (int l = 1; l < 5; l++) {
            check.due("another line " + l, x.line(l, 1), NONE);
        }
        x.minute();
        check.due("the last minute", x.line(5, 1), 1);
        x.minute();
        check.due("done: from", x.line(0, 1), NONE);
        check.due("done: to", x.line(5, 1), NONE);
        x.plugs(0);
        check.due("the first call", x.line(5, 1), 0);
        x.pulls(0);
        check.due("cut off: from", x.line(0, 1), NONE);
        check.due("cut off: to", x.line(5, 1), NONE);
    }

    // "CALLS 0 .. (7 at most)"; "Of a CALL: .. BAD."
    private void callsToTheLast() {
        for (int calls = 0; calls <= 7; calls++) {
            BoardCords x = Edges.waiting(2, calls).object();
            for (int what = 0; what < 8; what++) {
                int asked = what;
                check.holds("calls of " + calls, Edges.holdsJustFor(0, calls - 1,
                        c -> x.call(c, asked) != BAD));
            }
        }
        for (int c : Edges.outside(0, 6)) {
            check.changesNothing("call " + c, BUSY, x -> x.call(c, 0), BAD);
            check.changesNothing("call " + c + ", left", BUSY, x -> x.call(c, 6), BAD);
        }
    }

    // "0 the MINUTE, 1 FROM, 2 TO, 3 LONG, 4 RANK, 5 how it is (0 .. 4), 6 LEFT .., 7 WAITED. BAD."
    private void callWhat() {
        int[] first = {0, 0, 1, 2, 9, DONE, 0, 0};
        int[] last = {2, 5, 1, 1, 3, WAITS, 0, 2};
        BoardCords x = BUSY.object();
        for (int what = 0; what < 8; what++) {
            check.due("the first call, " + what, x.call(0, what), first[what]);
            check.due("the last call, " + what, x.call(6, what), last[what]);
        }
        for (int what : Edges.outside(0, 7)) {
            check.changesNothing("call 0, " + what, BUSY, o -> o.call(0, what), BAD);
            check.changesNothing("call 7, " + what, BUSY, o -> o.call(7, what), BAD);
        }
        check.changesNothing("a call", BUSY, o -> o.call(1, 6), 5);
    }

    // "A CALL is TO COME (0), WAITS (1 ..), TALKS (2), is DONE (3), or CUT OFF (4)."
    private void howACallIs() {
        int[] how = {DONE, TALKS, WAITS, TALKS, CUT_OFF, TO_COME, WAITS};
        BoardCords x = BUSY.object();
        for (int c = 0; c < 7; c++) {
            check.due("how call " + c + " is", x.call(c, 5), how[c]);
        }
    }

    // "6 LEFT (0, if it does not TALK)"
    private void leftOnlyWhileItTalks() {
        int[] left = {0, 5, 0, 5, 0, 0, 0};
        BoardCords x = BUSY.object();
        for (int c = 0; c < 7; c++) {
            check.due("left to call " + c, x.call(c, 6), left[c]);
        }
    }

    // "0 THE MINUTE, .. 5 how many may be UNDONE. BAD."
    private void nowWhat() {
        int[] now = {4, 1 << 2 | 1 << 6, 1 << 1 | 1 << 3, 1, 0, 10};
        BoardCords x = BUSY.object();
        for (int what = 0; what < 6; what++) {
            check.due("now " + what, x.now(what), now[what]);
        }
        for (int what : Edges.outside(0, 5)) {
            check.changesNothing("now " + what, BUSY, o -> o.now(what), BAD);
        }
        check.changesNothing("a minute", BUSY, o -> o.now(0), 4);
    }

    // "3 CORDS that are free": from all of them to none
    private void cordsThatAreFree() {
        for (int cords = 1; cords <= 4; cords++) {
            BoardCords x = Boards.of("l6;x" + cords + ";c0 0 1 1 0;c0 2 3 2 0;c0 4 5 3 0;");
            int most = Math.min(cords, 3);
            check.due("all are free", x.now(3), cords);
            for (int c = 0; c < most; c++) {
                check.due("plugged " + c, x.plugs(c), cords - c - 1);
                check.due("free then", x.now(3), cords - c - 1);
            }
            x.minute();
            check.due("one is done", x.now(3), cords - most + 1);
        }
    }

    // "1 who WAITS (bits), 2 who TALKS (bits)": none, the first, the last, all
    private void bitsOfAll() {
        check.due("nobody waits", Edges.waiting(2, 0).object().now(1), 0);
        check.due("the first waits", Edges.waiting(2, 1).object().now(1), 1);
        BoardCords x = Edges.waiting(2, 7).object();
        check.due("all wait", x.now(1), 127);
        x.plugs(6);
        check.due("all but the last wait", x.now(1), 63);
        check.due("the last talks", x.now(2), 64);
        x.pulls(6);
        check.due("nobody talks", x.now(2), 0);
        x.plugs(0);
        check.due("the first talks", x.now(2), 1);
    }

    // "CORDS CROSS, if of their HOLES just one of the one's is between those of the other one"
    private void crossed() {
        crosses("c0 0 2 1 0;c0 1 3 1 0;", 1);
        crosses("c0 2 0 1 0;c0 1 3 1 0;", 1);
        crosses("c0 0 2 1 0;c0 3 1 1 0;", 1);
        crosses("c0 1 3 1 0;c0 0 2 1 0;", 1);
        crosses("c0 0 1 1 0;c0 2 3 1 0;", 0);
        crosses("c0 2 3 1 0;c0 1 0 1 0;", 0);
        crosses("c0 0 3 1 0;c0 1 2 1 0;", 0);
        crosses("c0 1 2 1 0;c0 3 0 1 0;", 0);
        crosses("c0 0 5 1 0;c0 1 4 1 0;c0 2 3 1 0;", 0);
        crosses("c0 0 3 1 0;c0 1 4 1 0;c0 2 5 1 0;", 3);
        crosses("c0 0 2 1 0;c0 1 4 1 0;c0 3 5 1 0;", 2);
        crosses("c0 0 4 1 0;c0 1 2 1 0;c0 3 5 1 0;", 1);
        crosses("h0 1;c0 0 2 1 0;c0 1 3 1 0;", 0);
        crosses("h1 2;h0 5;c0 0 2 1 0;c0 1 4 1 0;", 0);
        crosses("h2 5;c0 0 1 1 0;c0 2 3 1 0;c0 4 5 1 0;", 1);
    }

    private void crosses(String text, int want) {
        BoardCords x = Boards.of("l6;x4;" + text);
        check.due("nobody talks: " + text, x.now(4), 0);
        for (int c = 0; c < x.count(2); c++) {
            x.plugs(c);
        }
        check.due("cross: " + text, x.now(4), want);
    }

    // "(such as have a LINE in common do not)": only a call that has no cord can have one
    private void crossedByALineInCommon() {
        BoardCords x = Boards.of("l4;x2;c0 0 2 9 0;c0 2 1 1 0;c0 1 0 1 0;c0 3 2 1 0;c0 3 1 1 0;");
        x.plugs(0);
        check.due("it itself", x.under(0), 0);
        check.due("its TO is FROM, within", x.under(1), 0);
        check.due("its FROM is TO, within", x.under(2), 0);
        check.due("its TO is TO, without", x.under(3), 0);
        check.due("none in common", x.under(4), 1);
    }

    // "THE MINUTE (0 at first; 99 at most)"; "A MINUTE: which it is. STATE: it is 99."
    private void minute99() {
        BoardCords x = Edges.waiting(2, 1).object();
        check.due("at first", x.now(0), 0);
        for (int m = 1; m <= 99; m++) {
            check.due("minute " + m, x.minute(), m);
        }
        check.due("it is 99", x.minute(), STATE);
        check.due("it stays 99", x.now(0), 99);
        check.due("undone", x.undo(), 9);
        check.due("98", x.now(0), 98);
        check.due("99 again", x.minute(), 99);
        check.due("and no more", x.minute(), STATE);
        Past late = Edges.waiting(2, 2).thenMinutes(98).then(o -> o.plugs(1));
        check.due("98 goes by", late.object().minute(), 99);
        check.changesNothing("99 does not", late.thenMinutes(1), o -> o.minute(), STATE);
        check.changesNothing("of no calls", Past.NONE.thenMinutes(99), o -> o.minute(), STATE);
        BoardCords y = late.thenMinutes(1).object();
        check.due("plugged at 99", y.pulls(1), 8);
        check.due("another one at 99", y.plugs(0), 3);
        check.due("swapped at 99", Past.NONE.thenMinutes(99).object().swaps(0, 1), 1);
    }

    // "WAITS (1; from the MINUTE on at which it FELL)"; "FALL (0 .. 40)"
    private void waitsFromTheMinuteOn() {
        for (int fall = 0; fall <= 40; fall++) {
            BoardCords x = Boards.of("c" + fall + " 0 1 1 0;");
            for (int m = 0; m <= 41; m++) {
                check.due("falls at " + fall + ", at " + m, x.call(0, 5), m < fall ? TO_COME : WAITS);
                check.due("who waits", x.now(1), m < fall ? 0 : 1);
                check.due("waited", x.call(0, 7), Math.max(0, m - fall));
                x.minute();
            }
        }
    }

    // "LONG is LEFT to it"; "of each that TALKS one less is LEFT; with none it is DONE"
    private void talksForSoLong() {
        for (int length = 1; length <= 20; length++) {
            BoardCords x = Boards.of("c0 0 1 " + length + " 0;");
            x.plugs(0);
            for (int m = 0; m < length; m++) {
                check.due("talks", x.call(0, 5), TALKS);
                check.due("left at " + m + " of " + length, x.call(0, 6), length - m);
                check.due("no cord is free", x.now(3), 0);
                x.minute();
            }
            check.due("done", x.call(0, 5), DONE);
            check.due("nothing is left", x.call(0, 6), 0);
            check.due("the cord is free", x.now(3), 1);
            x.minute();
            check.due("done it stays", x.call(0, 5), DONE);
        }
    }

    // "each that WAITS has WAITED one more": and nobody else
    private void waitedByMinutes() {
        Past next = BUSY.thenMinutes(1);
        int[] more = {0, 0, 1, 0, 0, 0, 1};
        for (int c = 0; c < 7; c++) {
            int waited = BUSY.object().call(c, 7);
            check.due("waited of " + c, next.object().call(c, 7), waited + more[c]);
        }
        BoardCords x = Edges.waiting(2, 1).thenMinutes(99).object();
        check.due("waited since 0 at 99", x.call(0, 7), 99);
        BoardCords y = Boards.of("c3 0 1 2 0;");
        for (int m = 0; m < 4; m++) {
            check.due("what falls has not waited", y.call(0, 7), 0);
            y.minute();
        }
        check.due("a minute later", y.call(0, 7), 1);
        y.plugs(0);
        y.minute();
        check.due("who talks does not wait", y.call(0, 7), 1);
        y.minute();
        y.minute();
        check.due("who is done does not", y.call(0, 7), 1);
    }

    // "plugs: .. BAD"
    private void plugsNoSuchCall() {
        for (int calls = 0; calls <= 7; calls++) {
            Past past = Edges.waiting(2, calls);
            check.holds("plugs of " + calls, Edges.holdsJustFor(0, calls - 1,
                    c -> past.object().plugs(c) == 3));
        }
        for (int c : Edges.outside(0, 6)) {
            check.changesNothing("plugs " + c, BUSY, x -> x.plugs(c), BAD);
        }
        check.changesNothing("plugs of no calls", Past.NONE, x -> x.plugs(0), BAD);
    }

    // "STATE: it does not WAIT"
    private void plugsWhatDoesNotWait() {
        // cords are free, and all lines but those of the one that talks
        Past past = Past.board("l6;x4;c0 0 1 1 0;c0 2 3 9 0;c0 4 5 9 0;c2 4 5 9 0;")
                .then(x -> x.plugs(0)).thenMinutes(1).then(x -> {
                    x.plugs(1);
                    x.plugs(2);
                    x.pulls(2);
                });
        check.changesNothing("done", past, x -> x.plugs(0), STATE);
        check.changesNothing("talks", past, x -> x.plugs(1), STATE);
        check.changesNothing("cut off", past, x -> x.plugs(2), STATE);
        check.changesNothing("to come", past, x -> x.plugs(3), STATE);
        check.due("it waits", past.thenMinutes(1).object().plugs(3), 2);
    }

    // "STATE: .. or cannot be": no cord is free
    private void plugsWithoutACord() {
        for (int cords = 1; cords <= 3; cords++) {
            int talk = cords - 1;
            Past past = Past.board("l6;x" + cords + ";c0 0 1 9 0;c0 2 3 9 0;c0 4 5 9 0;")
                    .then(x -> {
                        for (int c = 0; c < talk; c++) {
                            x.plugs(c);
                        }
                    });
            check.due("the last cord", past.object().plugs(talk), 0);
            Past none = past.then(x -> x.plugs(talk));
            for (int c = cords; c < 3; c++) {
                int other = c;
                check.changesNothing("no cord of " + cords, none, x -> x.plugs(other), STATE);
                check.due("a cord is free again", none.then(x -> x.pulls(0)).object().plugs(other),
                        0);
            }
        }
    }

    // "if a CORD is free and neither LINE is ENGAGED"
    private void plugsAnEngagedLine() {
        Past past = Past.board("l4;x4;c0 0 1 9 0;c0 0 2 9 0;c0 2 0 9 0;c0 1 2 9 0;c0 2 1 9 0;"
                + "c0 1 0 9 0;c0 2 3 9 0;").then(x -> x.plugs(0));
        for (int c = 1; c <= 5; c++) {
            int other = c;
            check.changesNothing("an engaged line of " + c, past, x -> x.plugs(other), STATE);
        }
        check.due("neither is engaged", past.object().plugs(6), 2);
        check.due("free again", past.then(x -> x.pulls(0)).object().plugs(3), 3);
    }

    // "pulls: .. BAD"
    private void pullsNoSuchCall() {
        for (int calls = 0; calls <= 7; calls++) {
            Past past = Edges.waiting(2, calls);
            check.holds("pulls of " + calls, Edges.holdsJustFor(0, calls - 1,
                    c -> past.then(x -> x.plugs(c)).object().pulls(c) == 9));
        }
        for (int c : Edges.outside(0, 6)) {
            check.changesNothing("pulls " + c, BUSY, x -> x.pulls(c), BAD);
        }
        check.changesNothing("pulls of no calls", Past.NONE, x -> x.pulls(0), BAD);
    }

    // "STATE: it does not TALK."
    private void pullsWhatDoesNotTalk() {
        for (int c : new int[] {0, 2, 4, 5, 6}) {
            check.changesNothing("pulls " + c, BUSY, x -> x.pulls(c), STATE);
        }
        check.due("it talks", BUSY.object().pulls(1), 5);
    }

    // "PULLED: what was LEFT."
    private void pullsLeft() {
        for (int gone = 0; gone < 20; gone++) {
            BoardCords x = Past.board("c0 0 1 20 0;").then(o -> o.plugs(0)).thenMinutes(gone)
                    .object();
            check.due("left behind " + gone, x.pulls(0), 20 - gone);
            check.due("cut off", x.call(0, 5), CUT_OFF);
            check.due("nothing is left to it", x.call(0, 6), 0);
            check.due("pulled twice", x.pulls(0), STATE);
            x.minute();
            check.due("cut off it stays", x.call(0, 5), CUT_OFF);
        }
    }

    // "swaps: .. BAD"
    private void swapsNoSuchLine() {
        for (int lines = 2; lines <= 6; lines++) {
            Past past = Edges.waiting(lines, 1);
            check.holds("the first of " + lines, Edges.holdsJustFor(1, lines - 1,
                    l -> past.object().swaps(l, 0) == 0));
            check.holds("the second of " + lines, Edges.holdsJustFor(1, lines - 1,
                    l -> past.object().swaps(0, l) >= 0));
        }
        for (int l : Edges.outside(0, 5)) {
            check.changesNothing("swaps " + l + " 0", BUSY, x -> x.swaps(l, 0), BAD);
            check.changesNothing("swaps 0 " + l, BUSY, x -> x.swaps(0, l), BAD);
        }
    }

    // "BAD (one and the same, too)"
    private void swapsOneAndTheSame() {
        for (int l = 0; l < 6; l++) {
            int line = l;
            check.changesNothing("swaps " + l + " " + l, BUSY, x -> x.swaps(line, line), BAD);
        }
        check.changesNothing("no line twice", BUSY, x -> x.swaps(6, 6), BAD);
        check.changesNothing("no line twice", BUSY, x -> x.swaps(-1, -1), BAD);
    }

    // "STATE: one of them is ENGAGED."
    private void swapsEngagedLines() {
        // 2, 3, 4 and 5 are engaged, 0 and 1 are not
        for (int l = 2; l <= 5; l++) {
            int line = l;
            check.changesNothing("the first is engaged", BUSY, x -> x.swaps(line, 0), STATE);
            check.changesNothing("the second is engaged", BUSY, x -> x.swaps(1, line), STATE);
            check.changesNothing("both are", BUSY, x -> x.swaps(line, 7 - line), STATE);
        }
        check.due("neither is", BUSY.object().swaps(0, 1), 1);
        check.due("no more", BUSY.then(x -> x.pulls(1)).object().swaps(2, 3), 3);
        check.due("nor behind the last minute", BUSY.thenMinutes(5).object().swaps(2, 5), 0);
        check.due("but ahead of it", BUSY.thenMinutes(4).object().swaps(2, 5), STATE);
    }

    // "the first of these: BAD .., STATE .."
    private void swapsBadAheadOfState() {
        check.changesNothing("an engaged one and none", BUSY, x -> x.swaps(2, 6), BAD);
        check.changesNothing("an engaged one and none", BUSY, x -> x.swaps(2, -1), BAD);
        check.changesNothing("none and an engaged one", BUSY, x -> x.swaps(6, 2), BAD);
        check.changesNothing("none and an engaged one", BUSY, x -> x.swaps(-1, 2), BAD);
        check.changesNothing("an engaged one and itself", BUSY, x -> x.swaps(2, 2), BAD);
    }

    // "SWAPPED: two LINES have one another's HOLES."; "the HOLE of the first one then"
    private void swapsAll() {
        for (int a = 0; a < 6; a++) {
            for (int b = 0; b < 6; b++) {
                if (a != b) {
                    BoardCords x = Boards.of("l6;");
                    check.due("swaps " + a + " " + b, x.swaps(a, b), b);
                    for (int l = 0; l < 6; l++) {
                        check.due("hole of " + l, x.line(l, 0), l == a ? b : l == b ? a : l);
                    }
                    check.due("and back", x.swaps(a, b), a);
                }
            }
        }
    }

    // "undo: .. STATE: none."
    private void undoNone() {
        check.changesNothing("at first", Past.NONE, x -> x.undo(), STATE);
        check.changesNothing("behind board()", Edges.waiting(3, 3), x -> x.undo(), STATE);
        Past empty = BUSY.then(x -> {
            for (int i = 0; i < 10; i++) {
                x.undo();
            }
        });
        check.changesNothing("behind ten", empty, x -> x.undo(), STATE);
        check.changesNothing("behind board()", BUSY.then(x -> {
            x.clear();
            x.board();
        }), x -> x.undo(), STATE);
        check.changesNothing("behind back()", BUSY.then(x -> x.back(0)), x -> x.undo(), STATE);
    }

    // "(10 are known, older ones are lost)"; "how many more may be"
    private void undoTenAtMost() {
        for (int done = 0; done <= 32; done++) {
            BoardCords x = Past.NONE.thenMinutes(done).object();
            int known = Math.min(done, 10);
            check.due("known of " + done, x.now(5), known);
            for (int more = known - 1; more >= 0; more--) {
                check.due("undo of " + done, x.undo(), more);
                check.due("may be undone", x.now(5), more);
                check.due("the minute", x.now(0), done - known + more);
            }
            check.due("none of " + done, x.undo(), STATE);
            check.due("the oldest known", x.now(0), done - known);
            x.minute();
            check.due("one again", x.now(5), 1);
        }
    }

    // "older ones are lost": the eleventh from the end, not the tenth
    private void undoLosesTheOldest() {
        for (int minutes = 8; minutes <= 11; minutes++) {
            BoardCords x = Past.board("c0 0 1 20 0;").then(o -> o.plugs(0)).thenMinutes(minutes)
                    .object();
            int undone = 0;
            while (undone < 12 && x.undo() != STATE) {
                undone++;
            }
            check.due("undone", undone, Math.min(10, minutes + 1));
            check.due("plugs() is lost behind " + minutes, x.call(0, 5),
                    minutes >= 10 ? TALKS : WAITS);
        }
        BoardCords y = Past.NONE.thenMinutes(10).object();
        y.undo();
        y.undo();
        y.swaps(0, 1);
        check.due("two less and one more", y.now(5), 9);
        y.swaps(0, 1);
        check.due("ten again, none is lost", y.now(5), 10);
        for (int more = 9; more >= 0; more--) {
            check.due("ten of both", y.undo(), more);
        }
        check.due("the first of all", y.now(0), 0);
    }

    // "UNDONE: the latest minute(), plugs(), pulls(), swaps()"
    private void undoTakesAllBack() {
        // nine are known, so that none is lost by one more
        Past nine = BUSY.then(x -> x.undo());
        check.same("minute()", nine.thenMinutes(1).then(x -> x.undo()), nine);
        check.same("pulls()", nine.then(x -> x.pulls(3)).then(x -> x.undo()), nine);
        check.same("swaps()", nine.then(x -> x.swaps(0, 1)).then(x -> x.undo()), nine);
        Past free = nine.then(x -> {
            x.undo();
            x.pulls(3);
        });
        check.due("it can be plugged", free.object().plugs(6), 1);
        check.same("plugs()", free.then(x -> x.plugs(6)).then(x -> x.undo()), free);
        for (Past past : new Past[] {Edges.lastTalk(), Edges.firstTalk()}) {
            check.same("a minute of seven", past.thenMinutes(1).then(x -> x.undo()), past);
            int known = past.object().now(5);
            check.same("a minute, and all pulled", past.thenMinutes(1).then(x -> {
                for (int c = 0; c < 7; c++) {
                    x.pulls(c);
                }
                for (int i = x.now(5); i > known; i--) {
                    x.undo();
                }
            }), past);
        }
    }

    // "that was not refused"
    private void undoOfWhatWasNotRefused() {
        Past talks = Past.board("l3;x1;c0 0 1 20 0;c0 1 2 9 0;").then(x -> x.plugs(0))
                .thenMinutes(9);
        check.due("ten are known", talks.object().now(5), 10);
        check.same("ten are known yet, the same ones", talks.then(x -> {
            x.plugs(0);
            x.plugs(1);
            x.plugs(2);
            x.pulls(1);
            x.pulls(-1);
            x.swaps(0, 2);
            x.swaps(2, 2);
            x.swaps(3, 2);
            x.type(256);
            x.keep(2);
            x.back(0);
        }), talks);
        check.same("a minute beyond 99", Past.NONE.thenMinutes(99), Past.NONE.thenMinutes(101));
    }

    // "THE TRACE goes on, as behind undo()"; images and the text are not undone
    private void undoLeavesTheRest() {
        BoardCords x = Past.board("c0 0 1 9 3;").object();
        x.minute();
        x.minute();
        x.keep(1);
        x.rate(2, 0);
        Boards.write(x, "l3");
        check.due("undone", x.undo(), 1);
        check.due("the trace goes on", x.trace(), 101);
        check.due("letters stay", x.count(3), 2);
        check.due("the image stays", x.back(1), 2);
        check.due("and is as it was", x.call(0, 7), 2);
    }
}
