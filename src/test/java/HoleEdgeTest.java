/**
 * The edges of holes, of what falls at once, of what crosses and of odds (promises 17 to 22): above
 * each test stands the sentence of the document that it is for.
 */
public final class HoleEdgeTest {
    private static final int BAD = -1, NONE = -9;
    private static final Past BUSY = Edges.busy();

    private final Check check = new Check();

    public static void main(String[] args) {
        HoleEdgeTest t = new HoleEdgeTest();
        t.longCordsFromNoneToTheMost();
        t.longCordsOfAllCalls();
        t.changeNone();
        t.changeTheFirst();
        t.changeOfEachTwo();
        t.changeTheShortest();
        t.changeOfEngagedLines();
        t.bestHolesNoSuchLine();
        t.bestHolesOfNoCalls();
        t.bestHolesOfSeveralTheFirst();
        t.bestHolesByAnyHoles();
        t.atOnceNoSuchThing();
        t.atOnceOfNoCalls();
        t.atOnceFrom0To40();
        t.atOnceTheFirst();
        t.underNoSuchCall();
        t.underNobody();
        t.underAll();
        t.oddsNoSuchNumber();
        t.oddsOfAFreeLine();
        t.oddsByMinutes();
        t.oddsByParts();
        t.oddsNobodyIsPlugged();
        t.nothingIsChanged();
        t.check.end();
    }

    // "how far the HOLES of all CALLS' LINES are from one another in all"
    private void longCordsFromNoneToTheMost() {
        check.due("no calls", new BoardCords().longCords(), 0);
        check.due("no calls, six lines", Boards.of("l6;").longCords(), 0);
        check.due("one", Boards.of("c0 0 1 1 0;").longCords(), 1);
        check.due("the most", Boards.of("l6;" + "c0 0 5 1 0;".repeat(7)).longCords(), 35);
        check.due("the most, from 5", Boards.of("l6;" + "c0 5 0 1 0;".repeat(7)).longCords(), 35);
        check.due("by holes as told", Boards.of("l6;h4 0;c0 0 5 1 0;").longCords(), 1);
        check.due("by holes as swapped", Past.board("l6;c0 0 5 1 0;").then(x -> x.swaps(0, 4))
                .object().longCords(), 1);
    }

    // "of all CALLS": to come, waiting, talking, done and cut off ones
    private void longCordsOfAllCalls() {
        check.due("busy", BUSY.object().longCords(), 4 + 1 + 3 + 4 + 4 + 1 + 1);
    }

    // "if they are shorter by that; NONE"
    private void changeNone() {
        check.due("no calls", new BoardCords().change(), NONE);
        check.due("no calls, six lines", Boards.of("l6;h0 5;").change(), NONE);
        check.due("two lines", Boards.of("c0 0 1 1 0;").change(), NONE);
        check.due("two lines, the other way", Boards.of("h0 1;c0 0 1 1 0;").change(), NONE);
        check.due("none is shorter", Boards.of("l6;c0 0 1 1 0;c0 2 3 1 0;c0 4 5 1 0;").change(),
                NONE);
        check.due("as long is not shorter", Boards.of("l3;c0 0 1 1 0;c0 1 2 1 0;c0 2 0 1 0;")
                .change(), NONE);
        BoardCords two = Boards.of("l6;c0 1 2 1 0;c0 4 5 1 0;c0 4 2 1 0;");
        check.due("4 now", two.longCords(), 4);
        check.due("3 at best", two.bestHoles(-1), 3);
        check.due("but not by one change", two.change(), NONE);
    }

    // "the first two LINES (10 times the lesser and the other one)"
    private void changeTheFirst() {
        check.due("0 and 1", Boards.of("l3;c0 0 2 1 0;").change(), 1);
        check.due("0 and 1 of many alike", Boards.of("l6;c0 0 2 1 0;").change(), 1);
        check.due("0 and 4", Boards.of("l6;c0 0 5 1 0;").change(), 4);
        check.due("by holes now", Boards.of("l3;h1 2;c0 0 1 1 0;").change(), 2);
    }

    // "10 times the lesser and the other one": each two of six lines, by whom alone it is shortest
    private void changeOfEachTwo() {
        String[] told = {"1 5-4 3-0 3-2 3-4 0-1", "2 4-0 1-0 4-5 0-3", "3 0-4 5-4 3-2",
            "4 4-1 0-5 3-0 1-0 3-0", "5 5-2 4-0 4-3 1-2", "12 1-2 2-0 1-4 3-4",
            "13 2-3 4-5 4-1 1-4", "14 0-2 5-1", "15 4-1 0-2 4-3 5-0", "23 5-4 2-4",
            "24 2-5 4-5 3-2 1-4 0-4", "25 4-2 0-5 2-4", "34 4-2 0-1 0-4 3-5",
            "35 4-5 5-1 5-2 3-5", "45 4-5 5-3"};
        for (String pairAndCalls : told) {
            String[] parts = pairAndCalls.split(" ");
            StringBuilder text = new StringBuilder("l6;");
            for (int i = 1; i < parts.length; i++) {
                text.append("c0 ").append(parts[i].replace('-', ' ')).append(" 1 0;");
            }
            check.due(text.toString(), Boards.of(text.toString()).change(),
                    Integer.parseInt(parts[0]));
        }
    }

    // "who should be SWAPPED so that these are shortest": not the first ones by whom shorter
    private void changeTheShortest() {
        BoardCords x = Boards.of("l6;c0 1 5 1 0;c0 1 4 1 0;c0 5 4 1 0;c0 2 0 1 0;");
        check.due("1 and 3", x.change(), 13);
        int before = x.longCords();
        x.swaps(0, 3);
        int shorter = x.longCords();
        x.undo();
        x.swaps(1, 3);
        check.holds("by 0 and 3 shorter, by 1 and 3 shortest",
                shorter < before && x.longCords() < shorter);
    }

    // "(Nothing is changed.)": it tells who should be swapped, engaged or not
    private void changeOfEngagedLines() {
        Past talks = Past.board("l6;c0 0 5 9 0;").then(x -> x.plugs(0));
        check.changesNothing("0 and 4", talks, x -> x.change(), 4);
    }

    // "BEST HOLES: the least (l = -1), the HOLE of a LINE. BAD."
    private void bestHolesNoSuchLine() {
        for (int lines = 2; lines <= 6; lines++) {
            BoardCords x = Boards.of("l" + lines + ";");
            check.holds("lines of " + lines, Edges.holdsJustFor(-1, lines - 1,
                    l -> x.bestHoles(l) != BAD));
        }
        for (int l : Edges.outside(-1, 5)) {
            check.changesNothing("bestHoles " + l, BUSY, x -> x.bestHoles(l), BAD);
        }
        check.changesNothing("bestHoles 2 of two", Past.NONE, x -> x.bestHoles(2), BAD);
    }

    private void best(String text, int least, int... holes) {
        BoardCords x = Boards.of(text);
        check.due(text + " the least", x.bestHoles(-1), least);
        for (int l = 0; l < holes.length; l++) {
            check.due(text + " hole of " + l, x.bestHoles(l), holes[l]);
        }
        check.due(text + " no more lines", x.bestHoles(holes.length), BAD);
    }

    // "of several the first row": without calls all rows are alike
    private void bestHolesOfNoCalls() {
        best("", 0, 0, 1);
        best("h0 1;", 0, 0, 1);
        best("l3;h0 2;", 0, 0, 1, 2);
        best("l6;h0 5;h1 4;", 0, 0, 1, 2, 3, 4, 5);
    }

    // "of several the first row (HOLE of LINE 0, then 1, ..)"
    private void bestHolesOfSeveralTheFirst() {
        best("c0 1 0 1 0;", 1, 0, 1);
        best("l3;c0 0 2 1 0;", 1, 0, 2, 1);
        best("l4;c0 0 3 1 0;", 1, 0, 2, 3, 1);
        best("l4;c0 3 2 1 0;", 1, 0, 1, 2, 3);
        best("l6;c0 0 5 1 0;", 1, 0, 2, 3, 4, 5, 1);
        best("l3;c0 0 1 1 0;c0 0 2 1 0;", 2, 1, 0, 2);
        best("l6;c0 0 5 1 0;c0 1 4 1 0;c0 2 3 1 0;", 3, 0, 2, 4, 5, 3, 1);
    }

    // "the least that these can be by any HOLES": whatever holes there are now
    private void bestHolesByAnyHoles() {
        String star = "c0 0 1 1 0;c0 0 2 1 0;c0 0 3 1 0;c0 0 4 1 0;c0 0 5 1 0;";
        best("l6;" + star, 1 + 1 + 2 + 2 + 3, 2, 0, 1, 3, 4, 5);
        best("l6;h0 5;h3 1;" + star, 9, 2, 0, 1, 3, 4, 5);
        best("l6;" + "c0 0 5 1 0;".repeat(7), 7, 0, 2, 3, 4, 5, 1);
        Past talks = Past.board("l6;c0 0 5 9 0;").then(x -> x.plugs(0)).thenMinutes(3);
        check.due("engaged lines, too", talks.object().bestHoles(-1), 1);
        check.due("nothing changes by it", talks.object().longCords(), 5);
    }

    // "AT ONCE: the MINUTE (what = 0 ..), how many (1). BAD."
    private void atOnceNoSuchThing() {
        for (int what : Edges.outside(0, 1)) {
            check.changesNothing("atOnce " + what, BUSY, x -> x.atOnce(what), BAD);
            check.changesNothing("atOnce " + what, Past.NONE, x -> x.atOnce(what), BAD);
        }
    }

    private void atOnce(String text, int minute, int many) {
        BoardCords x = Boards.of(text);
        check.due(text + " minute", x.atOnce(0), minute);
        check.due(text + " how many", x.atOnce(1), many);
    }

    // "(what = 0; no CALLS: 0)"
    private void atOnceOfNoCalls() {
        atOnce("", 0, 0);
        atOnce("l6;x4;h0 5;", 0, 0);
        check.due("at a later minute", Past.NONE.thenMinutes(9).object().atOnce(0), 0);
    }

    // "the MINUTE (0 .. 40) at which most CALLS FALL"
    private void atOnceFrom0To40() {
        for (int minute = 0; minute <= 40; minute++) {
            for (int many = 1; many <= 7; many++) {
                atOnce(("c" + minute + " 0 1 1 0;").repeat(many), minute, many);
            }
        }
    }

    // "at which most CALLS FALL, the first"
    private void atOnceTheFirst() {
        atOnce("c40 0 1 1 0;c0 0 1 1 0;", 0, 1);
        atOnce("c40 0 1 1 0;c39 0 1 1 0;", 39, 1);
        atOnce("c40 0 1 1 0;c0 0 1 1 0;c40 0 1 1 0;", 40, 2);
        atOnce("c9 0 1 1 0;c8 0 1 1 0;c9 0 1 1 0;c8 0 1 1 0;c0 0 1 1 0;", 8, 2);
        check.due("gone by, too", Past.board("c1 0 1 1 0;c2 0 1 1 0;").thenMinutes(50).object()
                .atOnce(0), 1);
    }

    // "under: .. BAD"
    private void underNoSuchCall() {
        for (int calls = 0; calls <= 7; calls++) {
            BoardCords x = Edges.waiting(2, calls).object();
            check.holds("under of " + calls, Edges.holdsJustFor(0, calls - 1,
                    c -> x.under(c) == 0));
        }
        for (int c : Edges.outside(0, 6)) {
            check.changesNothing("under " + c, BUSY, x -> x.under(c), BAD);
        }
        check.changesNothing("under of no calls", Past.NONE, x -> x.under(0), BAD);
    }

    // "those that TALK": nobody else has a cord
    private void underNobody() {
        Past past = Past.board("l4;x2;c0 0 2 2 0;c0 1 3 9 0;c5 1 3 9 0;");
        check.due("it waits", past.object().under(1), 0);
        Past talks = past.then(x -> x.plugs(0));
        check.due("it talks", talks.object().under(1), 1);
        check.due("its last minute", talks.thenMinutes(1).object().under(1), 1);
        check.due("it is done", talks.thenMinutes(2).object().under(1), 0);
        check.due("it is cut off", talks.then(x -> x.pulls(0)).object().under(1), 0);
    }

    // "whose CORDS that of a CALL CROSSES, if it had one": to come, waiting, done or cut off
    private void underAll() {
        Past past = Past.board("l6;x4;c0 0 3 1 0;c0 0 3 9 0;c40 0 3 9 0;c0 0 3 9 0;c0 1 4 20 0;"
                + "c0 2 5 20 0;c0 3 0 9 0;").then(x -> x.plugs(0)).thenMinutes(1).then(x -> {
            x.plugs(1);
            x.pulls(1);
            x.plugs(4);
            x.plugs(5);
            x.plugs(6);
        });
        int both = 1 << 4 | 1 << 5;
        BoardCords x = past.object();
        check.due("done", x.under(0), both);
        check.due("cut off", x.under(1), both);
        check.due("to come", x.under(2), both);
        check.due("waits, its lines are engaged", x.under(3), both);
        check.due("talks", x.under(6), both);
        check.due("the last one's bit", x.under(4), 1 << 5 | 1 << 6);
    }

    // "ODDS by p (0 .. 10) of a LINE, m (0 .. 40) MINUTES from NOW"; "BAD."
    private void oddsNoSuchNumber() {
        for (int lines = 2; lines <= 6; lines++) {
            BoardCords x = Edges.waiting(lines, 1).object();
            check.holds("lines of " + lines, Edges.holdsJustFor(0, lines - 1,
                    l -> x.odds(l, 5, 5, 0) == 1));
        }
        BoardCords x = BUSY.object();
        check.holds("p", Edges.holdsJustFor(0, 10, p -> x.odds(0, p, 5, 1) == 1));
        check.holds("m", Edges.holdsJustFor(0, 40, m -> x.odds(0, 5, m, 1) == 1));
        check.holds("what", Edges.holdsJustFor(0, 1, what -> x.odds(0, 5, 5, what) == 1));
        for (int l : Edges.outside(0, 5)) {
            check.changesNothing("odds of line " + l, BUSY, o -> o.odds(l, 5, 5, 0), BAD);
        }
        for (int p : Edges.outside(0, 10)) {
            check.changesNothing("odds by " + p, BUSY, o -> o.odds(2, p, 5, 0), BAD);
        }
        for (int m : Edges.outside(0, 40)) {
            check.changesNothing("odds in " + m, BUSY, o -> o.odds(2, 5, m, 0), BAD);
        }
        for (int what : Edges.outside(0, 1)) {
            check.changesNothing("odds, " + what, BUSY, o -> o.odds(2, 5, 5, what), BAD);
        }
    }

    private void odds(BoardCords x, int[] linePartsMinutes, int upper, int lower) {
        int l = linePartsMinutes[0];
        int p = linePartsMinutes[1];
        int m = linePartsMinutes[2];
        String what = "odds of " + l + " by " + p + " in " + m;
        check.due(what + ", upper", x.odds(l, p, m, 0), upper);
        check.due(what + ", lower", x.odds(l, p, m, 1), lower);
    }

    // "that the LINE is not ENGAGED then": one that is not now will not be
    private void oddsOfAFreeLine() {
        for (int p = 0; p <= 10; p++) {
            for (int m : new int[] {0, 1, 20, 40}) {
                odds(new BoardCords(), new int[] {1, p, m}, 1, 1);
                odds(BUSY.object(), new int[] {0, p, m}, 1, 1);
            }
        }
        Past done = Past.board("c0 0 1 3 0;").then(x -> x.plugs(0)).thenMinutes(3);
        odds(done.object(), new int[] {0, 10, 0}, 1, 1);
        Past cut = Past.board("c0 0 1 3 0;").then(x -> x.plugs(0)).then(x -> x.pulls(0));
        odds(cut.object(), new int[] {1, 10, 0}, 1, 1);
    }

    // "talks on twice as long as is LEFT (2 times LEFT in all from NOW on)"
    private void oddsByMinutes() {
        for (int left = 1; left <= 20; left++) {
            BoardCords x = Past.board("c0 0 1 20 0;").then(o -> o.plugs(0)).thenMinutes(20 - left)
                    .object();
            for (int l = 0; l <= 1; l++) {
                odds(x, new int[] {l, 5, 0}, 0, 1);
                odds(x, new int[] {l, 5, left - 1}, 0, 1);
                odds(x, new int[] {l, 5, left}, 1, 2);
                odds(x, new int[] {l, 5, 2 * left - 1}, 1, 2);
                odds(x, new int[] {l, 5, 2 * left}, 1, 1);
                odds(x, new int[] {l, 5, 40}, 1, 1);
            }
        }
    }

    // "by p of 10"; "a fraction"; "in least terms"
    private void oddsByParts() {
        int[] upper = {1, 9, 4, 7, 3, 1, 2, 3, 1, 1, 0};
        int[] lower = {1, 10, 5, 10, 5, 2, 5, 10, 5, 10, 1};
        BoardCords x = Past.board("c0 0 1 4 0;").then(o -> o.plugs(0)).object();
        for (int p = 0; p <= 10; p++) {
            odds(x, new int[] {0, p, 3}, 0, 1);
            odds(x, new int[] {0, p, 4}, upper[p], lower[p]);
            odds(x, new int[] {0, p, 7}, upper[p], lower[p]);
            odds(x, new int[] {0, p, 8}, 1, 1);
        }
    }

    // "each that TALKS NOW ..; nobody is PLUGGED"
    private void oddsNobodyIsPlugged() {
        Past past = Past.board("l3;x2;c0 0 1 2 0;c0 0 1 9 0;c0 0 2 9 0;c1 1 2 9 0;");
        odds(past.object(), new int[] {0, 5, 5}, 1, 1);
        BoardCords x = past.then(o -> o.plugs(0)).object();
        odds(x, new int[] {0, 3, 1}, 0, 1);
        odds(x, new int[] {0, 3, 2}, 7, 10);
        odds(x, new int[] {0, 3, 4}, 1, 1);
        odds(x, new int[] {2, 3, 2}, 1, 1);
    }

    // "(Nothing is changed.)"
    private void nothingIsChanged() {
        for (Past past : new Past[] {BUSY, Past.NONE, Edges.waiting(6, 7), BUSY.thenMinutes(95)}) {
            check.onlyAsks(past, x -> x.longCords());
            check.onlyAsks(past, x -> x.change());
            for (int i = -1; i <= 7; i++) {
                int asked = i;
                check.onlyAsks(past, x -> x.bestHoles(asked));
                check.onlyAsks(past, x -> x.atOnce(asked));
                check.onlyAsks(past, x -> x.under(asked));
                check.onlyAsks(past, x -> x.odds(asked, 3, 5, 0));
                check.onlyAsks(past, x -> x.odds(asked, 3, 5, 1));
            }
        }
    }
}
