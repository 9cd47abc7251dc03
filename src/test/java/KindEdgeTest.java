/**
 * The edges of kinds, images, counts and the trace (promises 23 to 27): above each test stands the
 * sentence of the document that it is for.
 */
public final class KindEdgeTest {
    private static final int BAD = -1, STATE = -2, NO = -1000000;
    private static final Past BUSY = Edges.busy();

    private final Check check = new Check();

    public static void main(String[] args) {
        KindEdgeTest t = new KindEdgeTest();
        t.rateNoSuchKind();
        t.rateNoSuchCall();
        t.rateOfTheLeastAndTheMost();
        t.rateAddsToTheTraceAlone();
        t.keepNoSuchImage();
        t.keepTellsTheMinute();
        t.keepChangesNothingElse();
        t.keepOverAnother();
        t.backNoSuchImage();
        t.backNoneWasKept();
        t.backBadAheadOfState();
        t.backToAllOfThat();
        t.backAndNothingElse();
        t.backAndNothingCanBeUndone();
        t.backAgain();
        t.imagesBehindUndo();
        t.imagesBehindBoard();
        t.imagesBehindAFault();
        t.countNoSuchThing();
        t.countFromTheLeastToTheMost();
        t.traceAtFirst();
        t.traceGoesOn();
        t.traceOfAWholeObject();
        t.check.end();
    }

    // "RATE. NO: BAD.": kinds 0 .. 5
    private void rateNoSuchKind() {
        for (int kind : Edges.outside(0, 5)) {
            check.changesNothing("rate " + kind, BUSY, x -> x.rate(kind, 0), NO);
            check.changesNothing("rate " + kind + " of none", BUSY, x -> x.rate(kind, 7), NO);
        }
        check.holds("kinds", Edges.holdsJustFor(0, 5, kind -> BUSY.object().rate(kind, 6) != NO));
    }

    // "RATE. NO: BAD.": calls that there are
    private void rateNoSuchCall() {
        for (int calls = 0; calls <= 7; calls++) {
            BoardCords x = Edges.waiting(2, calls).object();
            for (int kind = 0; kind <= 5; kind++) {
                int as = kind;
                check.holds("rate of " + calls, Edges.holdsJustFor(0, calls - 1,
                        c -> x.rate(as, c) != NO));
            }
        }
        for (int kind = 0; kind <= 5; kind++) {
            int as = kind;
            for (int c : Edges.outside(0, 6)) {
                check.changesNothing("rate of " + c, BUSY, x -> x.rate(as, c), NO);
            }
            check.changesNothing("rate of no calls", Past.NONE, x -> x.rate(as, 0), NO);
        }
    }

    private void rates(String what, BoardCords x, int c, int... want) {
        for (int kind = 0; kind < want.length; kind++) {
            check.due(what + " as kind " + kind, x.rate(kind, c), want[kind]);
        }
    }

    // "CALL its RANK. DOCTOR up, and how long it WAITED. GOSSIP up less LONG. FIRE twice up. WIFE up,
    // and its number. WRONG up, and how far its HOLES are from one another": from below 0 on
    private void rateOfTheLeastAndTheMost() {
        rates("the least", Boards.of("c0 0 1 20 0;"), 0, 0, 0, -20, 0, -20, 1);
        BoardCords most = Past.board("l6;" + "c0 5 0 1 9;".repeat(7)).thenMinutes(99).object();
        rates("the most", most, 6, 9, 9 + 99, 9 - 1, 2 * (9 + 99), 9 - 1 + 6, 9 + 5);
        rates("the first", most, 0, 9, 9 + 99, 9 - 1, 2 * (9 + 99), 9 - 1, 9 + 5);
        BoardCords come = Boards.of("l3;h0 1;c40 0 2 3 4;c40 1 0 3 2;");
        rates("to come", come, 1, 2, 2, -1, 4, 0, 3);
        Past cut = Past.board("c0 0 1 9 4;").thenMinutes(2).then(x -> {
            x.plugs(0);
            x.minute();
            x.pulls(0);
            x.minute();
        });
        rates("cut off", cut.object(), 0, 4, 4 + 2, 4 - 9, 2 * (4 + 2), 4 - 9, 4 + 1);
    }

    // "numbers in brackets are added to THE TRACE, .. as often as rate() asks that body: each once"
    private void rateAddsToTheTraceAlone() {
        long[] added = {1, 11, 101, 1011, 10101, 100001};
        for (int kind = 0; kind <= 5; kind++) {
            int as = kind;
            for (int c = 0; c < 7; c++) {
                BoardCords x = BUSY.object();
                long before = x.trace();
                x.rate(kind, c);
                check.due("added by kind " + kind, x.trace(), before + added[kind]);
            }
            Past plain = Past.board("c0 0 1 5 2;").thenMinutes(1);
            Past once = plain.then(x -> x.rate(as, 0));
            check.due("of a new trace", once.object().trace(), added[kind]);
            check.holds("all else is as it was", butTrace(Whole.of(once)).equals(
                    butTrace(Whole.of(plain))));
        }
    }

    private static String butTrace(String whole) {
        return whole.replaceAll("trace \\d+", "");
    }

    // "IMAGES 0, 1"; "keep: .. BAD."
    private void keepNoSuchImage() {
        for (int image : Edges.outside(0, 1)) {
            check.changesNothing("keep " + image, BUSY, x -> x.keep(image), BAD);
            check.changesNothing("keep " + image, Past.NONE, x -> x.keep(image), BAD);
        }
    }

    // "An IMAGE is kept: THE MINUTE."
    private void keepTellsTheMinute() {
        for (int minute : new int[] {0, 1, 40, 98, 99}) {
            for (int image = 0; image <= 1; image++) {
                BoardCords x = Past.NONE.thenMinutes(minute).object();
                check.due("keep at " + minute, x.keep(image), minute);
                check.due("the other one was not kept", x.back(1 - image), STATE);
                check.due("this one was", x.back(image), minute);
            }
        }
    }

    // "IMAGES 0, 1 keep NOW ..": nothing is changed by that, and nothing is to be undone
    private void keepChangesNothingElse() {
        for (int image = 0; image <= 1; image++) {
            int which = image;
            Past kept = BUSY.then(x -> x.keep(which));
            check.holds("keep", Whole.seen(kept).equals(Whole.seen(BUSY)));
            check.same("keep of what is kept", kept.then(x -> x.keep(which)), kept);
            check.due("what can be undone stays", kept.object().undo(), 9);
            Past undone = kept.then(x -> x.undo());
            check.holds("it is not what is undone", Whole.seen(undone).equals(
                    Whole.seen(BUSY.then(x -> x.undo()))));
            check.due("the image is kept yet", undone.object().back(which), 4);
        }
    }

    // "An IMAGE is kept": the newer one, and the other one stays
    private void keepOverAnother() {
        BoardCords x = Past.NONE.then(o -> o.keep(0)).thenMinutes(1).then(o -> o.keep(1))
                .thenMinutes(1).then(o -> o.keep(0)).thenMinutes(1).object();
        check.due("the newer one", x.back(0), 2);
        check.due("the other one", x.back(1), 1);
        check.due("the newer one again", x.back(0), 2);
    }

    // "back: .. BAD"
    private void backNoSuchImage() {
        for (int image : Edges.outside(0, 1)) {
            check.changesNothing("back " + image, BUSY, x -> x.back(image), BAD);
        }
    }

    // "STATE: none was kept."
    private void backNoneWasKept() {
        Past past = Past.board("l3;x2;c0 0 1 5 0;").thenMinutes(2).thenText("l");
        for (int image = 0; image <= 1; image++) {
            int which = image;
            check.changesNothing("none was kept", past, x -> x.back(which), STATE);
            check.changesNothing("the other one was", past.then(x -> x.keep(1 - which)),
                    x -> x.back(which), STATE);
            check.due("this one was", past.then(x -> x.keep(which)).object().back(which), 2);
        }
    }

    // "the first of these: BAD .., STATE .."
    private void backBadAheadOfState() {
        for (int image : Edges.outside(0, 1)) {
            check.changesNothing("back " + image, Past.NONE, x -> x.back(image), BAD);
        }
    }

    // "All of that becomes as an IMAGE has it: THE MINUTE." - "THE MINUTE, CALLS, HOLES"
    private void backToAllOfThat() {
        Past start = Past.board("l6;x3;h0 5;c0 0 1 3 9;c0 2 3 9 1;c0 4 5 9 5;c3 0 1 8 7;c1 4 5 1 0;");
        Past then = start.then(x -> {
            x.swaps(0, 3);
            x.minute();
            x.plugs(0);
            x.plugs(2);
            x.minute();
            x.pulls(2);
        });
        for (int image = 0; image <= 1; image++) {
            int which = image;
            Past back = then.then(x -> x.keep(which)).then(x -> {
                x.plugs(1);
                x.plugs(4);
                x.minute();
                x.minute();
                x.pulls(1);
                x.swaps(2, 5);
                x.swaps(0, 4);
                x.minute();
            }).then(x -> x.back(which));
            check.same("as kept", back, then.then(x -> x.keep(which)).then(x -> x.back(which)));
            check.holds("as it was then", seenButUndone(back.object()).equals(
                    seenButUndone(then.object())));
        }
        for (Past past : new Past[] {Edges.lastTalk(), Edges.firstTalk()}) {
            BoardCords x = past.object();
            x.keep(0);
            String kept = Whole.seen(past);
            x.pulls(0);
            x.pulls(6);
            x.minute();
            x.swaps(4, 5);
            x.back(0);
            check.holds("seven calls as kept", seenButUndone(x).equals(butUndone(kept)));
        }
        check.due("the minute", then.then(x -> x.keep(0)).thenMinutes(9).object().back(0), 2);
        check.due("back to 99", Past.NONE.thenMinutes(99).then(x -> {
            x.keep(0);
            x.undo();
        }).object().back(0), 99);
        check.due("back to 0 from 99", Past.NONE.then(x -> x.keep(1)).thenMinutes(99).object()
                .back(1), 0);
    }

    private static String seenButUndone(BoardCords x) {
        return butUndone(Whole.seen(x));
    }

    /** How many may be undone stands last of what now() tells. */
    private static String butUndone(String seen) {
        return seen.replaceFirst(" \\d+ count", " count");
    }

    // "nothing else": neither the text nor the trace nor the other image
    private void backAndNothingElse() {
        BoardCords x = Past.board("l3;c0 0 1 5 6;").then(o -> {
            Boards.write(o, "l");
            o.rate(0, 0);
            o.keep(0);
            o.minute();
            o.keep(1);
            Boards.write(o, "4;");
            o.rate(1, 0);
        }).object();
        check.due("back", x.back(0), 0);
        check.due("the trace goes on", x.trace(), 12);
        check.due("letters stay", x.count(3), 3);
        check.due("the other image stays", x.back(1), 1);
        check.due("the text is read", x.board(), 1);
        check.due("as it was", x.count(0), 4);
    }

    // "(nothing can be UNDONE behind back())"
    private void backAndNothingCanBeUndone() {
        Past back = Past.NONE.thenMinutes(3).then(x -> x.keep(0)).thenMinutes(5)
                .then(x -> x.back(0));
        BoardCords x = back.object();
        check.due("none may be", x.now(5), 0);
        check.due("none is", x.undo(), STATE);
        check.due("still as kept", x.now(0), 3);
        BoardCords y = back.thenMinutes(2).object();
        check.due("two behind it", y.now(5), 2);
        check.due("one", y.undo(), 1);
        check.due("two", y.undo(), 0);
        check.due("none ahead of it", y.undo(), STATE);
        check.due("as kept again", y.now(0), 3);
        Past full = BUSY.then(o -> o.back(1)).thenMinutes(12);
        check.due("ten behind it", full.object().now(5), 10);
        check.same("at once", BUSY.then(o -> o.keep(0)).then(o -> o.back(0)),
                BUSY.then(o -> o.keep(0)).then(o -> o.back(0)).then(o -> o.back(0)));
    }

    // "All of that becomes as an IMAGE has it": the image itself stays as it is
    private void backAgain() {
        Past once = BUSY.then(x -> x.back(0));
        check.same("twice is as once", once.thenMinutes(3).then(x -> {
            x.swaps(0, 1);
            x.plugs(3);
            x.back(0);
        }), once);
        check.same("by way of the other", BUSY.then(x -> x.back(1)).then(x -> x.back(0)), once);
    }

    // "UNDONE: the latest minute(), plugs(), pulls(), swaps()": images stay as they are
    private void imagesBehindUndo() {
        BoardCords x = Past.NONE.thenMinutes(2).then(o -> o.keep(0)).then(o -> o.undo()).object();
        check.due("the image of a minute that was undone", x.back(0), 2);
        Past kept = Past.NONE.then(o -> o.keep(0)).thenMinutes(1).then(o -> o.keep(1));
        BoardCords y = kept.then(o -> o.undo()).object();
        check.due("image 1", y.back(1), 1);
        check.due("image 0", y.back(0), 0);
    }

    // "(Read anew: .. IMAGES are gone ..)"
    private void imagesBehindBoard() {
        for (int image = 0; image <= 1; image++) {
            int which = image;
            Past read = BUSY.then(x -> {
                x.clear();
                x.board();
            });
            check.changesNothing("gone", read, x -> x.back(which), STATE);
            check.due("kept anew", read.then(x -> x.keep(which)).object().back(which), 0);
        }
    }

    // "-10 less FAULT: nothing changes": images stay
    private void imagesBehindAFault() {
        BoardCords x = BUSY.object();
        check.due("a fault", x.board(), -10 - 4);
        check.due("image 0", x.back(0), 1);
        check.due("image 1", x.back(1), 3);
    }

    // "0 LINES, 1 CORDS, 2 CALLS, 3 letters of THE TEXT. BAD."
    private void countNoSuchThing() {
        for (int what : Edges.outside(0, 3)) {
            check.changesNothing("count " + what, BUSY, x -> x.count(what), BAD);
            check.changesNothing("count " + what, Past.NONE, x -> x.count(what), BAD);
        }
        int[] busy = {6, 3, 7, 4};
        for (int what = 0; what < 4; what++) {
            int asked = what;
            check.changesNothing("count " + what, BUSY, x -> x.count(asked), busy[what]);
        }
    }

    // "LINES .. (2 .. 6; 2 at first)", "CORDS (1 .. 4; 1 at first)", "CALLS .. (7 at most)", "200"
    private void countFromTheLeastToTheMost() {
        counts("at first", Past.NONE, 2, 1, 0, 0);
        counts("the least", Past.board("l2;x1;"), 2, 1, 0, 0);
        counts("the most", Past.board("l6;x4;" + "c0 0 1 1 0;".repeat(7))
                .thenText(" ".repeat(200)), 6, 4, 7, 200);
    }

    private void counts(String what, Past past, int... want) {
        BoardCords x = past.object();
        for (int i = 0; i < want.length; i++) {
            check.due(what + ", count " + i, x.count(i), want[i]);
        }
    }

    // "THE TRACE, 0 at first"
    private void traceAtFirst() {
        check.changesNothing("at first", Past.NONE, x -> x.trace(), 0);
        check.changesNothing("busy", BUSY, x -> x.trace(), 111113);
        check.due("nothing but rate() adds to it", Edges.waiting(6, 7).thenMinutes(9).then(x -> {
            x.plugs(0);
            x.pulls(0);
            x.undo();
            x.keep(0);
            x.back(0);
            x.byRule(0, 60, 0);
        }).object().trace(), 0);
    }

    // "THE TRACE goes on, as behind undo(), back()"
    private void traceGoesOn() {
        BoardCords x = BUSY.object();
        x.undo();
        check.due("behind undo()", x.trace(), 111113);
        x.back(0);
        check.due("behind back()", x.trace(), 111113);
        check.due("a fault", x.board(), -10 - 4);
        check.due("behind a fault", x.trace(), 111113);
        x.clear();
        Boards.write(x, "c0 0 1 1 1;");
        check.due("read", x.board(), 1);
        check.due("behind board()", x.trace(), 111113);
        x.rate(0, 0);
        check.due("and on", x.trace(), 111114);
    }

    // "An object is used for at most 512 calls": the most that the trace can be
    private void traceOfAWholeObject() {
        BoardCords x = Boards.of("c0 0 1 1 1;");
        for (int i = 0; i < 499; i++) {
            x.rate(5, 0);
        }
        // eleven letters, board(), 499 times rate(): the 512th call
        check.due("499 times", x.trace(), 499L * 100001);
    }
}
