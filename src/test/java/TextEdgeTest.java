/**
 * The edges of THE TEXT (promises 2, 3, 4 and what "Terms" says of it): above each test stands the
 * sentence of the document that it is for.
 */
public final class TextEdgeTest {
    private static final int BAD = -1, FULL = -3, STATE = -2;
    private static final int LOW = Integer.MIN_VALUE, HIGH = Integer.MAX_VALUE;
    private static final String CALL = "c0 0 1 1 0;";

    /** A past with something of all: undone, images, the trace, half a text. */
    private static final Past RICH = Past.board("l4;x2;h0 3;c0 0 1 9 5;c0 2 3 2 1;c5 1 2 3 4;")
            .then(x -> {
                x.plugs(0);
                x.keep(0);
                x.minute();
                x.plugs(1);
                x.rate(3, 0);
                x.minute();
                x.keep(1);
                x.pulls(0);
                x.swaps(0, 2);
            });

    private final Check check = new Check();

    public static void main(String[] args) {
        TextEdgeTest t = new TextEdgeTest();
        t.lettersFrom0To255();
        t.textOf200Letters();
        t.fullChangesNothing();
        t.badComesAheadOfFull();
        t.clearOfEmptyAndFull();
        t.noItems();
        t.textOf200LettersIsRead();
        t.faultsAtTheLastLetters();
        t.blanksAnyNumber();
        t.blanksAreNeededOnlyBetweenNumbers();
        t.onlyLetter32IsABlank();
        t.eachItemIsEnded();
        t.tokensThatCanNotStand();
        t.otherLetters();
        t.numbersOfLines();
        t.numbersOfCords();
        t.numbersOfHoles();
        t.numbersOfCalls();
        t.callToItsOwnLine();
        t.numbersAbove99();
        t.numbersWithA0Ahead();
        t.linesFirstOfAll();
        t.cordsOnceAtMost();
        t.sevenCallsAtMost();
        t.endsTooEarly();
        t.theFirstFaultOfSeveral();
        t.holeChangesHands();
        t.faultChangesNothing();
        t.textStaysBehindAFault();
        t.textIsEmptyBehindBoard();
        t.notToldIsAsAtFirst();
        t.readAnew();
        t.check.end();
    }

    private void reads(String text, int want) {
        check.due("board of \"" + text + "\"", Boards.answer(text), want);
    }

    /** The fault is at that place. */
    private void fails(String text, int place) {
        reads(text, -10 - place);
    }

    // "A letter (0 .. 255) comes to THE TEXT: how many it has. BAD"
    private void lettersFrom0To255() {
        BoardCords x = new BoardCords();
        for (int letter = 0; letter < 200; letter++) {
            check.due("type " + letter, x.type(letter), letter + 1);
        }
        BoardCords y = new BoardCords();
        for (int letter = 200; letter <= 255; letter++) {
            check.due("type " + letter, y.type(letter), letter - 199);
        }
        for (int letter : new int[] {-1, 256, 256 + ';', LOW, HIGH}) {
            check.changesNothing("type " + letter, RICH.thenText("l3"), o -> o.type(letter), BAD);
        }
    }

    // "They are a text (200 letters at most)"; "FULL"
    private void textOf200Letters() {
        BoardCords x = new BoardCords();
        Boards.write(x, " ".repeat(198));
        check.due("letter 199", x.type('l'), 199);
        check.due("letter 200", x.type('l'), 200);
        check.due("letter 201", x.type('l'), FULL);
        check.due("200 letters", x.count(3), 200);
    }

    // "Refused, and nothing changes": a full text
    private void fullChangesNothing() {
        Past full = RICH.thenText(" ".repeat(197) + "l3;");
        check.changesNothing("a letter to a full text", full, x -> x.type('?'), FULL);
        check.due("it is read as it was", full.then(x -> x.type('?')).object().board(), 1);
    }

    // "the first of these: BAD .., STATE .., FULL"
    private void badComesAheadOfFull() {
        Past full = Past.NONE.thenText(" ".repeat(200));
        for (int letter : new int[] {-1, 256, LOW, HIGH}) {
            check.changesNothing("full, type " + letter, full, x -> x.type(letter), BAD);
        }
        check.due("full, the least letter", full.object().type(0), FULL);
        check.due("full, the greatest letter", full.object().type(255), FULL);
    }

    // "THE TEXT is empty: how many letters it had."
    private void clearOfEmptyAndFull() {
        check.changesNothing("clear of no text", RICH, x -> x.clear(), 0);
        Past full = RICH.thenText("?".repeat(200));
        check.due("clear of a full text", full.object().clear(), 200);
        check.same("no text then", full.then(x -> x.clear()), RICH);
        BoardCords x = full.object();
        x.clear();
        check.due("room again", x.type('l'), 1);
        check.due("clear of one letter", x.clear(), 1);
        check.due("clear twice", x.clear(), 0);
    }

    // "ITEMS (none, too)"
    private void noItems() {
        reads("", 0);
        reads(" ", 0);
        reads(" ".repeat(200), 0);
        check.due("none behind others", RICH.object().board(), 0);
    }

    // "a text (200 letters at most)": the last letter is read, too
    private void textOf200LettersIsRead() {
        reads(" ".repeat(197) + "l6;", 1);
        reads("l6;" + " ".repeat(197), 1);
        String most = "l6;x4;" + "c40 5 4 20 9;".repeat(7);
        String holes = "h5 0;".repeat(20);
        String text = most + holes + " ".repeat(200 - most.length() - holes.length());
        check.due("letters of the longest", text.length(), 200);
        reads(text, 29);
        reads("h0 0;".repeat(40), 40);
        // 201 letters: the last ';' does not come to the text
        fails(" ".repeat(198) + "l6;", 200);
    }

    // "FAULT: the place of the first letter ..; the text's length": at the text's far end
    private void faultsAtTheLastLetters() {
        fails(" ".repeat(199) + "?", 199);
        fails(" ".repeat(199) + "7", 199);
        fails(" ".repeat(199) + "l", 200);
        fails(" ".repeat(198) + "l7", 199);
        fails(" ".repeat(198) + "l6", 200);
        fails("l" + "9".repeat(199), 1);
    }

    // "blanks (32), any number, ahead of, between, behind TOKENS"
    private void blanksAnyNumber() {
        String[] tokens = {"l", "3", ";", "x", "2", ";", "h", "0 ", "2", ";", "c", "40 ", "0 ",
            "1 ", "20 ", "9", ";", ""};
        Past plain = Past.board(String.join("", tokens));
        for (int gap = 0; gap < tokens.length; gap++) {
            for (int many : new int[] {1, 2, 150}) {
                String[] wider = tokens.clone();
                wider[gap] = " ".repeat(many) + tokens[gap];
                String text = String.join("", wider);
                reads(text, 4);
                check.holds(text, Whole.seen(Past.board(text)).equals(Whole.seen(plain)));
            }
        }
        fails("  l  7  ;", 5);
        fails("l 3 ; ;", 6);
    }

    // "(needed only between two NUMBERS)"
    private void blanksAreNeededOnlyBetweenNumbers() {
        reads("l3;x2;h0 2;c40 0 1 20 9;", 4);
        fails("l3;h02;", 4);
        fails("l3;h12;", 4);
        fails("c40 01 1 1;", 4);
        fails("c4 0 11 1;", 5);
        fails("c0 0 1 11;", 9);
        fails("l1 2;", 1);
        fails("l2 0;", 3);
    }

    // "blanks (32)"
    private void onlyLetter32IsABlank() {
        for (int letter = 0; letter <= 255; letter++) {
            // l can't stand behind another item's letter
            int fault = "lxhc".indexOf(letter) >= 0 ? -11 : -10;
            reads((char) letter + "l3;", letter == 32 ? 1 : fault);
        }
        for (int letter : new int[] {0, 9, 10, 11, 12, 13, 31, 33, 95, 127, 133, 160, 255}) {
            fails("l" + (char) letter + "3;", 1);
            fails("l3" + (char) letter + ";", 2);
            fails("l3;" + (char) letter, 3);
        }
    }

    // "each ended by ;"
    private void eachItemIsEnded() {
        fails("l3", 2);
        fails("l3 x2;", 3);
        fails("x2h0 1;", 2);
        fails("h0 1c0 0 1 1 0;", 4);
        fails("c0 0 1 1 0x1;", 10);
        fails(";", 0);
        fails("l3;;", 3);
        fails(";l3;", 0);
        fails("c0 0 1 1 0 0;", 11);
        fails("h0 1 1;", 5);
        fails("x1 1;", 3);
    }

    // "the first TOKEN that can't stand there": each token behind each beginning
    private void tokensThatCanNotStand() {
        String seven = "l3;" + CALL.repeat(7);
        follow("", "lxhc");
        follow("l", "n");
        follow("l3", ";");
        follow("l3;", "xhc");
        follow("x", "n");
        follow("x2", ";");
        follow("x2;", "hc");
        follow("l3;h", "n");
        follow("l3;h0", "n");
        follow("l3;h0 1", ";");
        follow("l3;h0 1;", "xhc");
        follow("l3;c", "n");
        follow("l3;c0", "n");
        follow("l3;c0 0", "n");
        follow("l3;c0 0 1", "n");
        follow("l3;c0 0 1 1", "n");
        follow("l3;c0 0 1 1 0", ";");
        follow("l3;" + CALL, "xhc");
        follow(seven, "xh");
        follow(seven + "x1;", "h");
        follow(seven + "h0 1;", "xh");
    }

    /** Behind the beginning only these may stand ('n': a number); 2 is fit wherever one is. */
    private void follow(String beginning, String may) {
        for (String token : new String[] {"l", "x", "h", "c", ";", "2"}) {
            String text = beginning + " " + token;
            boolean fit = may.contains(token.equals("2") ? "n" : token);
            if (!fit) {
                fails(text, text.length() - 1);
                fails(text + " ?", text.length() - 1);
            } else if (token.equals(";")) {
                reads(text, text.length() - text.replace(";", "").length());
            } else {
                fails(text, text.length());
                fails(text + " ?", text.length() + 1);
            }
        }
    }

    // "of any other letter .. that TOKEN's"
    private void otherLetters() {
        String known = " lxhc;0123456789";
        String[] beginnings = {"", "l", "l3", "l3;", "x", "h0", "h0 1", "c0 0 1 1 0", "c0 0 ", "l3; "};
        for (int letter = 0; letter <= 255; letter++) {
            for (String beginning : beginnings) {
                if (known.indexOf(letter) < 0) {
                    fails(beginning + (char) letter, beginning.length());
                    fails(beginning + (char) letter + ";", beginning.length());
                }
            }
        }
        fails("L3;", 0);
        fails("l-3;", 1);
        fails("l+3;", 1);
        fails("l3.;", 2);
    }

    /** Between these two, the numbers from least to most may stand, and no other one. */
    private void numbers(String ahead, String behind, int least, int most) {
        int items = (ahead + behind).length() - (ahead + behind).replace(";", "").length();
        for (int n = 0; n <= 130; n++) {
            boolean fit = n >= least && n <= most;
            reads(ahead + n + behind, fit ? items : -10 - ahead.length());
            reads(ahead + "  " + n + " " + behind, fit ? items : -12 - ahead.length());
        }
    }

    // "LINES 0 .. n - 1 (2 .. 6)"
    private void numbersOfLines() {
        numbers("l", ";", 2, 6);
    }

    // "CORDS (1 .. 4)"
    private void numbersOfCords() {
        numbers("x", ";", 1, 4);
        numbers("l6;x", ";", 1, 4);
    }

    // "a LINE that there is not, a HOLE that is none of as many as there are LINES"
    private void numbersOfHoles() {
        numbers("h", " 0;", 0, 1);
        numbers("h0 ", ";", 0, 1);
        for (int lines = 2; lines <= 6; lines++) {
            numbers("l" + lines + ";h", " 1;", 0, lines - 1);
            numbers("l" + lines + ";h1 ", ";", 0, lines - 1);
        }
    }

    // "FALL (0 .. 40), FROM a LINE TO another one, LONG (1 .. 20 minutes), RANK (0 .. 9)"
    private void numbersOfCalls() {
        numbers("c", " 0 1 1 0;", 0, 40);
        numbers("c0 0 1 ", " 0;", 1, 20);
        numbers("c0 0 1 1 ", ";", 0, 9);
        numbers("c0 0 ", " 1 0;", 1, 1);
        for (int lines = 2; lines <= 6; lines++) {
            // the line behind the last one is none, and so is each one beyond
            String ahead = "l" + lines + ";c0 ";
            for (int n = 0; n <= 100; n++) {
                int other = n == 0 ? 1 : 0;
                boolean fit = n < lines;
                reads(ahead + n + " " + other + " 1 0;", fit ? 2 : -10 - ahead.length());
                reads(ahead + other + " " + n + " 1 0;", fit ? 2 : -12 - ahead.length());
            }
        }
        BoardCords x = Boards.of("l6;c0 0 5 1 0;c40 5 0 20 9;");
        int[] least = {0, 0, 5, 1, 0};
        int[] most = {40, 5, 0, 20, 9};
        for (int what = 0; what < 5; what++) {
            check.due("the least, " + what, x.call(0, what), least[what]);
            check.due("the most, " + what, x.call(1, what), most[what]);
        }
    }

    // "c T A B L R (a CALL; A, B unlike)"; "a B that is A": the fault is B's
    private void callToItsOwnLine() {
        for (int l = 0; l < 6; l++) {
            fails("l6;c9 " + l + " " + l + " 1 0;", 8);
            reads("l6;c9 " + l + " " + (l + 1) % 6 + " 1 0;", 2);
        }
    }

    // "a NUMBER above 99 .. that TOKEN's"
    private void numbersAbove99() {
        for (String number : new String[] {"99", "100", "101", "999", "1000", "65539", "4294967299",
            "18446744073709551619", "9".repeat(150), "3".repeat(150), "1" + "0".repeat(150)}) {
            fails("l" + number + ";", 1);
            fails("l3;h0 " + number + ";", 6);
            fails("c" + number + " 0 1 1 0;", 1);
            fails("c0 0 1 1 " + number + ";", 9);
            fails(number, 0);
            fails("l3 " + number, 3);
        }
    }

    // "or with a 0 ahead of others, that TOKEN's"
    private void numbersWithA0Ahead() {
        for (String number : new String[] {"00", "01", "02", "03", "000", "003", "010", "0100",
            "0".repeat(150)}) {
            fails("l" + number + ";", 1);
            fails("x" + number + ";", 1);
            fails("l4;h" + number + " 0;", 4);
            fails("l4;h0 " + number + ";", 6);
            fails("l4;c" + number + " 0 1 1 0;", 4);
            fails("l4;c0 0 1 " + number + " 0;", 10);
            fails("l4;c0 0 1 1 " + number + ";", 12);
        }
        reads("h0 0;", 1);
        reads("c0 0 1 1 0;", 1);
        reads("c10 0 1 10 0;", 1);
        reads("c40 0 1 20 0;", 1);
    }

    // "l N (LINES, the first of all, if it is told)"; "l behind another ITEM"
    private void linesFirstOfAll() {
        for (String ahead : new String[] {"l2;", "l3;", "x1;", "h0 1;", CALL, "x1;h0 1;" + CALL}) {
            fails(ahead + "l2;", ahead.length());
            fails("  " + ahead + " l2;", ahead.length() + 3);
            reads("  " + ahead, ahead.length() - ahead.replace(";", "").length());
        }
        reads("   l2;", 1);
    }

    // "x N (CORDS; once at most)"; "x again"
    private void cordsOnceAtMost() {
        for (String between : new String[] {"", "h0 1;", CALL, "h1 0;" + CALL}) {
            fails("x1;" + between + "x1;", 3 + between.length());
            fails("x1;" + between + "x4;", 3 + between.length());
            fails("l2;x2;" + between + "x", 6 + between.length());
        }
        reads("l3;h0 1;" + CALL + "x4;", 4);
        BoardCords x = Boards.of("x2;");
        Boards.write(x, "x3;");
        check.due("x in another text", x.board(), 1);
        check.due("cords of that", x.count(1), 3);
    }

    // "CALLS 0 .. (7 at most)"; "an eighth c"
    private void sevenCallsAtMost() {
        for (int calls = 0; calls <= 7; calls++) {
            reads(CALL.repeat(calls), calls);
            check.due(calls + " calls", Boards.of(CALL.repeat(calls)).count(2), calls);
        }
        fails(CALL.repeat(8), 77);
        fails(CALL.repeat(7) + "c", 77);
        fails(CALL.repeat(7) + "  c?", 79);
        fails("x1;" + CALL.repeat(4) + "h0 1;" + CALL.repeat(4), 3 + 77 + 5);
        BoardCords x = Boards.of(CALL.repeat(7));
        Boards.write(x, CALL.repeat(7));
        check.due("seven again in another text", x.board(), 7);
    }

    // "the text's length, if it ends too early"
    private void endsTooEarly() {
        String text = "l4;x2;h3 1;c40 3 0 20 9;h0 0;";
        int items = 0;
        for (int end = 0; end < text.length(); end++) {
            String beginning = text.substring(0, end);
            boolean ended = end == 0 || beginning.endsWith(";");
            items += end > 0 && ended ? 1 : 0;
            for (int blanks : new int[] {0, 1, 3}) {
                String part = beginning + " ".repeat(blanks);
                reads(part, ended ? items : -10 - part.length());
            }
        }
        reads(text, 5);
    }

    // "the first TOKEN that can't stand there": what is behind it does not count
    private void theFirstFaultOfSeveral() {
        fails("l7;x5;?", 1);
        fails("l3;x5;l7", 4);
        fails("?l7;", 0);
        fails("c41 9 9 99 99;", 1);
        fails("c40 9 9 99 99;", 4);
        fails("c40 1 9 99 99;", 6);
        fails("c40 1 0 99 99;", 8);
        fails("c40 1 0 20 99;", 11);
        fails("c40 1 0 20 9?", 12);
        fails("h9 9", 1);
        fails("h1 9", 3);
        fails("h1 1 9", 5);
        fails("l9", 1);
    }

    // "h A H (LINE A has HOLE H; who had it has A's instead)"
    private void holeChangesHands() {
        holes("l2;h0 1;", 1, 0);
        holes("l2;h0 0;", 0, 1);
        holes("l2;h0 1;h0 1;", 1, 0);
        holes("l2;h0 1;h1 1;", 0, 1);
        holes("l6;h0 5;", 5, 1, 2, 3, 4, 0);
        holes("l6;h5 0;h4 0;", 5, 1, 2, 3, 0, 4);
        holes("l3;h0 1;h0 2;", 2, 0, 1);
        holes("l3;" + CALL + "h2 0;", 2, 1, 0);
        holes("l4;h3 3;h2 3;h1 3;", 0, 3, 1, 2);
    }

    private void holes(String text, int... want) {
        BoardCords x = Boards.of(text);
        for (int l = 0; l < want.length; l++) {
            check.due(text + " hole of " + l, x.line(l, 0), want[l]);
        }
        check.due(text + " lines", x.count(0), want.length);
    }

    // "-10 less FAULT: nothing changes (THE TEXT stays, too)"
    private void faultChangesNothing() {
        fault("?", 0);
        fault("l", 1);
        fault("l2;x4;h0 1;" + CALL + "c0 0 1 1 10;", 31);
        fault(CALL.repeat(7) + "c", 77);
        fault(" ".repeat(199) + "x", 200);
    }

    private void fault(String text, int place) {
        check.changesNothing("fault behind much", RICH.thenText(text), x -> x.board(), -10 - place);
        check.changesNothing("fault at first", Past.NONE.thenText(text), x -> x.board(),
                -10 - place);
    }

    // "(THE TEXT stays, too)": it may be gone on with
    private void textStaysBehindAFault() {
        BoardCords x = new BoardCords();
        Boards.write(x, "l");
        check.due("no number", x.board(), -11);
        check.due("letters stay", x.count(3), 1);
        Boards.write(x, "6");
        check.due("no end", x.board(), -12);
        check.due("lines as they were", x.count(0), 2);
        Boards.write(x, ";");
        check.due("all told", x.board(), 1);
        check.due("lines as told", x.count(0), 6);
        Boards.write(x, "?");
        check.due("a fault", x.board(), -10);
        check.due("the same fault again", x.board(), -10);
        check.due("letters that stayed", x.clear(), 1);
        check.due("no fault in none", x.board(), 0);
    }

    // "THE TEXT tells all anew, and is empty then"
    private void textIsEmptyBehindBoard() {
        BoardCords x = new BoardCords();
        Boards.write(x, " ".repeat(197) + "l6;");
        check.due("a full text", x.board(), 1);
        check.due("empty then", x.count(3), 0);
        check.due("nothing to clear", x.clear(), 0);
        check.due("room then", x.type('x'), 1);
        check.due("only the new letters are read", x.board(), -11);
        x.clear();
        check.due("an empty text tells of none", x.board(), 0);
        check.due("lines as at first", x.count(0), 2);
    }

    // "as told (what is not told as at first)"
    private void notToldIsAsAtFirst() {
        Past much = Past.board("l6;x4;h0 5;h1 4;" + CALL.repeat(7)).then(x -> x.swaps(2, 3));
        String[] texts = {"", "l2;", "l6;", "x1;", "x4;", "h0 1;", CALL, "l5;x3;h0 4;" + CALL};
        for (String text : texts) {
            check.same("\"" + text + "\" behind much", much.thenText(text).then(x -> x.board()),
                    Past.board(text));
        }
        BoardCords x = much.object();
        check.due("none told", x.board(), 0);
        check.due("lines", x.count(0), 2);
        check.due("cords", x.count(1), 1);
        check.due("calls", x.count(2), 0);
        check.due("hole of 0", x.line(0, 0), 0);
        check.due("hole of 1", x.line(1, 0), 1);
    }

    // "what FALLS at 0 WAITS, IMAGES are gone, nothing can be UNDONE; THE TRACE goes on"
    private void readAnew() {
        BoardCords x = RICH.thenText("l3;c0 0 1 1 0;c1 1 2 1 0;c0 2 0 1 0;").object();
        long trace = x.trace();
        check.due("items", x.board(), 4);
        check.due("who falls at 0 waits", x.now(1), 5);
        check.due("who falls at 1 does not", x.call(1, 5), 0);
        check.due("nobody talks", x.now(2), 0);
        check.due("minute", x.now(0), 0);
        check.due("may be undone", x.now(5), 0);
        check.due("undo", x.undo(), STATE);
        check.due("image 0", x.back(0), STATE);
        check.due("image 1", x.back(1), STATE);
        check.due("the trace", x.trace(), trace);
        check.due("the trace is not 0", trace, 1011);
        Past[] pasts = {Edges.lastTalk(), Edges.firstTalk(), Edges.lastTalk().thenMinutes(20)};
        for (Past past : pasts) {
            check.same("read anew it is as read first", past.then(o -> {
                o.keep(0);
                o.keep(1);
                o.pulls(5);
                o.swaps(0, 2);
            }).thenText(Edges.SEVEN).then(o -> o.board()), Past.board(Edges.SEVEN));
        }
    }
}
