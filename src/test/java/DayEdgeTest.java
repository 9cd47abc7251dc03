/**
 * The edges of a day by rules (promises 13 to 16): above each test stands the sentence of the
 * document that it is for.
 */
public final class DayEdgeTest {
    private static final int BAD = -1, STATE = -2, NOT_SO_MANY = -5, NONE = -9;
    private static final Past BUSY = Edges.busy();

    private final Check check = new Check();

    public static void main(String[] args) {
        DayEdgeTest t = new DayEdgeTest();
        t.byRuleNoSuchNumber();
        t.byRuleOfNoCalls();
        t.byRuleForNoMinutes();
        t.byRuleFor60Minutes();
        t.byRulePastMinute99();
        t.byRuleBeginningOfEachMinute();
        t.byRuleWhoFellFirst();
        t.byRuleHigherRank();
        t.byRuleLongForLess();
        t.byRuleAlikeByNumber();
        t.byRuleAsItCanBe();
        t.byRuleNobodyIsPulled();
        t.byRuleAheadOfNow();
        t.byRuleFirstBehindNow();
        t.enoughNoSuchRule();
        t.enoughFrom1To4();
        t.enoughForWantOfACordAlone();
        t.enoughIn60Minutes();
        t.enoughPastMinute99();
        t.enoughWhileManyTalk();
        t.bestRowNoSuchNumber();
        t.bestRowOfAsManyAsWait();
        t.bestRowOfSeveralTheFirst();
        t.bestRowPassesOver();
        t.bestRowBehind30Minutes();
        t.bestRowPastMinute99();
        t.bestRowWhoFallsLater();
        t.bestRowAheadOfNow();
        t.cutForNoSuchCall();
        t.cutForWhatDoesNotWait();
        t.cutForNobody();
        t.cutForTheFewest();
        t.cutForLeastLeft();
        t.cutForLeastBits();
        t.nothingIsChanged();
        t.check.end();
    }

    // "BY A RULE (0 .. 2) for n (0 .. 60) MINUTES"; "BAD."
    private void byRuleNoSuchNumber() {
        for (int wrong : Edges.outside(0, 2)) {
            check.changesNothing("rule " + wrong, BUSY, x -> x.byRule(wrong, 5, 0), BAD);
            check.changesNothing("what " + wrong, BUSY, x -> x.byRule(0, 5, wrong), BAD);
        }
        for (int wrong : Edges.outside(0, 60)) {
            check.changesNothing("minutes " + wrong, BUSY, x -> x.byRule(0, wrong, 0), BAD);
        }
        BoardCords x = BUSY.object();
        check.holds("rules", Edges.holdsJustFor(0, 2, rule -> x.byRule(rule, 60, 0) == 6));
        check.holds("minutes", Edges.holdsJustFor(0, 60, n -> x.byRule(0, n, 0) >= 1));
        check.holds("what", Edges.holdsJustFor(0, 2, what -> x.byRule(2, 0, what) != BAD));
    }

    private void byRule(String what, BoardCords x, int[] ruleAndMinutes, int... want) {
        for (int i = 0; i < want.length; i++) {
            check.due(what + ", " + i, x.byRule(ruleAndMinutes[0], ruleAndMinutes[1], i), want[i]);
        }
    }

    // "two LINES, no CALLS": nobody is done, nobody waits
    private void byRuleOfNoCalls() {
        for (int rule = 0; rule <= 2; rule++) {
            for (int n : new int[] {0, 1, 60}) {
                byRule("no calls", new BoardCords(), new int[] {rule, n}, 0, 0, NONE);
            }
        }
    }

    // "for n (0 .. 60) MINUTES": by none of them all is as it is now
    private void byRuleForNoMinutes() {
        for (int rule = 0; rule <= 2; rule++) {
            byRule("one that is short", Boards.of("c0 0 1 1 0;"), new int[] {rule, 0}, 0, 0, NONE);
            byRule("busy", BUSY.object(), new int[] {rule, 0}, 1, 6, NONE);
            byRule("one minute", Boards.of("c0 0 1 1 0;"), new int[] {rule, 1}, 1, 0, 0);
        }
    }

    // "for n (0 .. 60) MINUTES": the last of them counts
    private void byRuleFor60Minutes() {
        for (int rule = 0; rule <= 2; rule++) {
            BoardCords late = Boards.of("c40 0 1 20 0;");
            byRule("59", late, new int[] {rule, 59}, 0, 0, NONE);
            byRule("60", late, new int[] {rule, 60}, 1, 0, 0);
            BoardCords three = Boards.of("c0 0 1 20 0;".repeat(3) + "c0 0 1 20 0;");
            byRule("three in 60", three, new int[] {rule, 60}, 3, 20 + 40 + 60, 0);
            byRule("two in 59", three, new int[] {rule, 59}, 2, 20 + 40 + 59, 0);
        }
    }

    // "from NOW (past MINUTE 99, too ..)"
    private void byRulePastMinute99() {
        for (int rule = 0; rule <= 2; rule++) {
            Past late = Past.board("c0 0 1 20 0;".repeat(4));
            BoardCords x = late.thenMinutes(99).object();
            byRule("at 99, 0", x, new int[] {rule, 0}, 0, 4 * 99, NONE);
            byRule("at 99, 19", x, new int[] {rule, 19}, 0, 4 * 99 + 3 * 19, NONE);
            byRule("at 99, 20", x, new int[] {rule, 20}, 1, 4 * 99 + 3 * 20, 0);
            byRule("at 99, 60", x, new int[] {rule, 60}, 3, 4 * 99 + 20 + 40 + 60, 0);
            BoardCords y = late.thenMinutes(79).object();
            byRule("at 79, to 99", y, new int[] {rule, 20}, 1, 4 * 79 + 60, 0);
            byRule("at 79, past 99", y, new int[] {rule, 41}, 2, 4 * 79 + 20 + 40 + 41, 0);
            check.due("it is 99 yet", x.now(0), 99);
        }
    }

    // "at the beginning of each of these, who WAITS is PLUGGED"
    private void byRuleBeginningOfEachMinute() {
        // 1 falls as 0 is done; 2 falls while 1 talks; 3 falls while nobody talks
        BoardCords x = Boards.of("c0 0 1 2 0;c2 0 1 3 0;c4 0 1 1 0;c9 0 1 1 0;");
        int[] done = {0, 0, 1, 1, 1, 2, 3, 3, 3, 3, 4};
        int[] waited = {0, 0, 0, 0, 0, 1, 1, 1, 1, 1, 1};
        for (int rule = 0; rule <= 2; rule++) {
            for (int n = 0; n <= 10; n++) {
                byRule("for " + n, x, new int[] {rule, n}, done[n], waited[n]);
            }
        }
    }

    // "by RULE 0 who FELL first": neither the higher nor the shorter nor the lower number
    private void byRuleWhoFellFirst() {
        BoardCords x = Past.board("c2 0 1 1 9;c1 0 1 5 0;c2 0 1 1 9;").thenMinutes(2).object();
        byRule("who fell first", x, new int[] {0, 5}, 1, 1 + 10, 1);
        byRule("not yet", x, new int[] {0, 4}, 0, 1 + 8, NONE);
    }

    // "1 of the higher RANK"
    private void byRuleHigherRank() {
        BoardCords x = Boards.of("c0 0 1 1 8;c0 0 1 5 9;c0 0 1 1 0;");
        byRule("the highest", x, new int[] {1, 5}, 1, 10, 1);
        byRule("then the higher", x, new int[] {1, 6}, 2, 11, 1);
        byRule("not yet", x, new int[] {1, 4}, 0, 8, NONE);
        BoardCords y = Past.board("c0 0 1 5 0;c1 0 1 5 1;").thenMinutes(1).object();
        byRule("though it fell later", y, new int[] {1, 5}, 1, 1 + 5, 1);
    }

    // "2 who is LONG for less"
    private void byRuleLongForLess() {
        BoardCords x = Boards.of("c0 0 1 20 9;c0 0 1 19 8;c0 0 1 1 0;");
        byRule("the shortest", x, new int[] {2, 1}, 1, 2, 2);
        byRule("then the shorter", x, new int[] {2, 20}, 2, 1 + 20, 2);
        byRule("then the longest", x, new int[] {2, 40}, 3, 1 + 20, 2);
    }

    // "of those alike by number"
    private void byRuleAlikeByNumber() {
        for (int rule = 0; rule <= 2; rule++) {
            BoardCords x = Boards.of("l6;" + "c0 0 1 2 5;".repeat(7));
            byRule("the lowest number", x, new int[] {rule, 2}, 1, 12, 0);
            // all others are alike, so that what is alike goes by number ahead of them
            BoardCords y = Past.board("c0 0 1 3 5;c0 0 1 3 5;c1 0 1 9 1;").thenMinutes(1)
                    .then(o -> o.plugs(0)).object();
            byRule("the next number", y, new int[] {rule, 6}, 2, 1 + 1 + 3 + 6, 0);
        }
    }

    // "as it can be, one behind another"
    private void byRuleAsItCanBe() {
        // 0 takes a line of 1, and so 2 has the second cord; then there is none for 3
        String calls = "c0 0 1 4 9;c0 1 2 4 9;c0 2 3 4 9;c0 4 5 4 9;";
        for (int rule = 0; rule <= 2; rule++) {
            byRule("two cords", Boards.of("l6;x2;" + calls), new int[] {rule, 4}, 2, 8, 0);
            byRule("two cords, all", Boards.of("l6;x2;" + calls), new int[] {rule, 8}, 4, 8, 0);
            byRule("three cords", Boards.of("l6;x3;" + calls), new int[] {rule, 4}, 3, 4, 0);
            byRule("one cord", Boards.of("l6;x1;" + calls), new int[] {rule, 4}, 1, 12, 0);
        }
    }

    // "nobody is PULLED"
    private void byRuleNobodyIsPulled() {
        Past past = Past.board("c0 0 1 20 0;c0 0 1 1 9;").then(x -> x.plugs(0));
        for (int rule = 0; rule <= 2; rule++) {
            byRule("19", past.object(), new int[] {rule, 19}, 0, 19, NONE);
            byRule("20", past.object(), new int[] {rule, 20}, 1, 20, 0);
            byRule("21", past.object(), new int[] {rule, 21}, 2, 20, 0);
        }
    }

    // "How many are DONE then, how many MINUTES all have WAITED in all (ahead of NOW, too, of both)"
    private void byRuleAheadOfNow() {
        Past past = Past.board("l4;x2;c0 0 1 1 0;c0 2 3 9 0;c0 2 3 1 0;").thenMinutes(3).then(x -> {
            x.plugs(0);
            x.plugs(1);
            x.minute();
            x.pulls(1);
        });
        for (int rule = 0; rule <= 2; rule++) {
            byRule("now", past.object(), new int[] {rule, 0}, 1, 3 + 3 + 4, NONE);
            byRule("then", past.object(), new int[] {rule, 1}, 2, 3 + 3 + 4, 2);
            byRule("cut off is never done", past.object(), new int[] {rule, 60}, 2, 10, 2);
        }
    }

    // "the first that is DONE behind NOW (of several at once the lowest number; NONE)"
    private void byRuleFirstBehindNow() {
        String calls = "l6;x3;c0 0 1 3 0;c0 2 3 2 5;c0 4 5 2 9;";
        for (int rule = 0; rule <= 2; rule++) {
            BoardCords x = Boards.of(calls);
            check.due("none yet", x.byRule(rule, 1, 2), NONE);
            check.due("two at once", x.byRule(rule, 2, 2), 1);
            check.due("the first stays", x.byRule(rule, 60, 2), 1);
            BoardCords y = Past.board(calls).then(o -> o.plugs(1)).thenMinutes(2).object();
            check.due("not who is done now", y.byRule(rule, 1, 2), NONE);
            check.due("but who is behind now", y.byRule(rule, 2, 2), 2);
            BoardCords last = Edges.lastTalk().object();
            check.due("the fifth call is not done yet", last.byRule(rule, 6, 2), NONE);
            check.due("the fifth call", last.byRule(rule, 7, 2), 4);
            BoardCords seventh = Boards.of("c1 0 1 2 0;".repeat(6) + "c0 0 1 1 0;");
            check.due("the seventh call", seventh.byRule(rule, 60, 2), 6);
            check.due("none is left", Past.board(calls).then(o -> o.plugs(1)).thenMinutes(2)
                    .then(o -> {
                        o.plugs(0);
                        o.plugs(2);
                        o.pulls(0);
                        o.pulls(2);
                    }).object().byRule(rule, 60, 2), NONE);
        }
    }

    // "ENOUGH; NONE. BAD."
    private void enoughNoSuchRule() {
        for (int rule : Edges.outside(0, 2)) {
            check.changesNothing("enough " + rule, BUSY, x -> x.enough(rule), BAD);
            check.changesNothing("enough " + rule, Past.NONE, x -> x.enough(rule), BAD);
        }
        BoardCords x = BUSY.object();
        check.holds("rules", Edges.holdsJustFor(0, 2, rule -> x.enough(rule) > 0));
    }

    private void enough(String what, String text, int want) {
        for (int rule = 0; rule <= 2; rule++) {
            check.due(what + " by rule " + rule, Boards.of(text).enough(rule), want);
        }
    }

    // "the fewest CORDS (1 .. 4)": six lines have room for three calls, so that three are enough
    private void enoughFrom1To4() {
        enough("no calls", "", 1);
        enough("no calls, four cords", "x4;", 1);
        for (int cords = 1; cords <= 4; cords++) {
            String x = "l6;x" + cords + ";";
            enough("one call", x + "c0 0 1 20 0;", 1);
            enough("two calls", x + "c0 0 1 20 0;c0 2 3 20 0;", 2);
            enough("three calls", x + "c0 0 1 20 0;c0 2 3 20 0;c0 4 5 20 0;", 3);
            enough("seven calls", x + "c0 0 1 9 0;c0 2 3 9 0;c0 4 5 9 0;c0 0 2 9 0;c0 1 3 9 0;"
                    + "c0 4 0 9 0;c0 5 1 9 0;", 3);
        }
    }

    // "for want of a free CORD alone (both LINES being free, all CORDS taken)"
    private void enoughForWantOfACordAlone() {
        enough("both lines are engaged", "l2;c0 0 1 9 0;c0 1 0 9 0;", 1);
        enough("FROM is engaged", "l3;c0 0 1 9 0;c0 1 2 9 0;", 1);
        enough("TO is engaged", "l3;c0 0 1 9 0;c0 2 1 9 0;", 1);
        enough("both are free", "l4;c0 0 1 9 0;c0 2 3 9 0;", 2);
        // the first call is the one that wants it, as it is the last by each rule
        enough("the first call's are free", "l4;c1 0 1 9 0;c0 2 3 8 5;", 2);
        enough("the last call's are free", "l4;" + "c0 0 1 1 5;".repeat(6) + "c5 2 3 2 0;", 2);
        enough("free as the other one is done", "l4;c0 0 1 9 0;c9 2 3 9 0;", 1);
        enough("a minute ahead of that", "l4;c0 0 1 9 0;c8 2 3 9 0;", 2);
    }

    // "in 60 MINUTES from NOW .. behind the PLUGGING of any of these"
    private void enoughIn60Minutes() {
        // when all from 0 to 1 are done, one of the last two wants a cord
        String last = "c0 0 2 1 0;c0 1 3 1 0;";
        BoardCords at59 = Boards.of("l4;c0 0 1 20 0;c0 0 1 20 0;c0 0 1 19 0;" + last);
        check.due("in the 60th", at59.enough(0), 2);
        BoardCords at60 = Boards.of("l4;c0 0 1 20 0;c0 0 1 20 0;c0 0 1 20 0;" + last);
        check.due("behind the 60th", at60.enough(0), 1);
        enough("in the first", "l4;c0 0 1 1 0;c0 2 3 1 0;", 2);
        enough("at 40", "l4;c40 0 1 1 0;c40 2 3 1 0;", 2);
        enough("a day that begins at 0", "l4;c39 0 1 1 0;c40 2 3 1 0;", 1);
        Past past = Past.board("l4;c0 0 1 20 0;c0 0 1 20 0;c0 0 1 20 0;" + last)
                .then(x -> x.plugs(0)).thenMinutes(1);
        check.due("a minute later it is in the 60th", past.object().enough(0), 2);
    }

    // "(past MINUTE 99, too; so in ENOUGH ..)"
    private void enoughPastMinute99() {
        for (int rule = 0; rule <= 2; rule++) {
            Past two = Past.board("l4;c0 0 1 5 0;c0 2 3 5 0;").thenMinutes(99);
            check.due("two at 99", two.object().enough(rule), 2);
            // both are behind 0, and want a cord at 119 only
            Past later = Past.board("l4;c0 0 1 20 9;c0 0 2 20 5;c0 1 3 20 5;").thenMinutes(99)
                    .then(x -> x.plugs(0));
            check.due("two past 99", later.object().enough(rule), 2);
            Past none = Past.board("l4;c0 0 1 20 9;c0 0 2 20 5;c0 1 2 20 5;").thenMinutes(99);
            check.due("one past 99", none.object().enough(rule), 1);
        }
    }

    // "all CORDS taken": as many as there are, or more than these
    private void enoughWhileManyTalk() {
        enoughBesideTwo("", 1);
        enoughBesideTwo("c5 4 5 1 0;", 1);
        enoughBesideTwo("c4 4 5 1 0;", 3);
        enoughBesideTwo("c0 4 5 1 0;", 3);
        enoughBesideTwo("c4 0 2 1 0;", 1);
        enoughBesideTwo("c0 0 2 1 0;", 1);
    }

    /** Two talk for five minutes; then there is this call, too. */
    private void enoughBesideTwo(String call, int want) {
        Past two = Past.board("l6;x4;c0 0 1 5 0;c0 2 3 5 0;" + call).then(x -> {
            x.plugs(0);
            x.plugs(1);
        });
        for (int rule = 0; rule <= 2; rule++) {
            check.due("two talk, " + call, two.object().enough(rule), want);
        }
    }

    // "BEST ROW: how much (k = -1), the k-th (-5). BAD."
    private void bestRowNoSuchNumber() {
        for (int k : new int[] {-2, -3, NOT_SO_MANY, NONE, -1000000, Edges.LOW, Edges.LOW + 1}) {
            check.changesNothing("bestRow " + k, BUSY, x -> x.bestRow(k), BAD);
            check.changesNothing("bestRow " + k, Past.NONE, x -> x.bestRow(k), BAD);
        }
    }

    // "the k-th of it (-5: not so many)"
    private void bestRowOfAsManyAsWait() {
        for (int calls = 0; calls <= 7; calls++) {
            BoardCords x = Edges.waiting(2, calls).object();
            for (int k = 0; k < calls; k++) {
                check.due("the row of " + calls, x.bestRow(k), k);
            }
            for (int k : new int[] {calls, calls + 1, 7, 8, 100, Edges.HIGH - 1, Edges.HIGH}) {
                check.due("not so many as " + k, x.bestRow(k), NOT_SO_MANY);
            }
        }
        check.due("nobody waits", new BoardCords().bestRow(-1), 0);
        BoardCords busy = BUSY.object();
        check.due("the first of two", busy.bestRow(0), 2);
        check.due("the second of two", busy.bestRow(1), 6);
        check.due("no third of two", busy.bestRow(2), NOT_SO_MANY);
    }

    private void row(String what, BoardCords x, int sum, int... row) {
        check.due(what + ", how much", x.bestRow(-1), sum);
        for (int k = 0; k < row.length; k++) {
            check.due(what + ", the " + k + "-th", x.bestRow(k), row[k]);
        }
        check.due(what + ", no more", x.bestRow(row.length), NOT_SO_MANY);
    }

    // "of several the first (by numbers)"
    private void bestRowOfSeveralTheFirst() {
        row("all alike", Boards.of("c0 0 1 4 0;".repeat(3)), 12, 0, 1, 2);
        row("two alike", Boards.of("c0 0 1 4 0;c0 0 1 2 9;c0 0 1 2 0;"), 2 + 4, 1, 2, 0);
        row("two by two", Boards.of("c0 0 1 2 0;c0 0 1 1 0;c0 0 1 2 0;c0 0 1 1 0;"), 1 + 2 + 4,
                1, 3, 0, 2);
        row("nobody hinders another", Boards.of("l6;x3;c0 4 5 9 0;c0 2 3 1 0;c0 0 1 2 0;"), 0,
                0, 1, 2);
        row("the last of all rows", Boards.of("c0 0 1 3 0;c0 0 1 2 0;c0 0 1 1 0;"), 1 + 3, 2, 1, 0);
        row("the last of 5040", Boards.of("c0 0 1 7 0;c0 0 1 6 0;c0 0 1 5 0;c0 0 1 4 0;c0 0 1 3 0;"
                + "c0 0 1 2 0;c0 0 1 1 0;"), 1 + 3 + 6 + 10 + 15 + 21, 6, 5, 4, 3, 2, 1, 0);
    }

    // "one that can not be PLUGGED yet is passed over, those behind it may be"
    private void bestRowPassesOver() {
        row("a line is engaged", Boards.of("l4;x2;c0 0 1 3 0;c0 1 2 1 0;c0 2 3 3 0;"), 1 + 1,
                1, 0, 2);
        row("passed over", Boards.of("l4;x2;c0 0 1 2 0;c0 0 1 2 0;c0 2 3 2 0;"), 2, 0, 1, 2);
        Past talks = Past.board("l4;x2;c0 0 1 3 0;c0 1 2 1 0;c0 3 2 1 0;").then(x -> x.plugs(0));
        row("one talks", talks.object(), 3, 1, 2);
        Past taken = Past.board("l6;x1;c0 0 1 3 0;c0 2 3 2 0;c0 4 5 1 0;").then(x -> x.plugs(0));
        row("no cord until then", taken.object(), 3 + 4, 2, 1);
        Past two = Past.board("l6;x4;c0 0 1 3 0;c0 2 3 5 0;c0 0 4 1 0;c0 2 5 1 0;").then(x -> {
            x.plugs(0);
            x.plugs(1);
        });
        row("two talk", two.object(), 3 + 5, 2, 3);
        row("two are plugged ahead", Boards.of("l6;x4;c0 0 1 9 0;c0 2 3 9 0;c0 0 4 9 0;"), 9,
                0, 1, 2);
    }

    // "least in all behind 30 MINUTES"
    private void bestRowBehind30Minutes() {
        row("to the 30th", Boards.of("c0 0 1 20 0;c0 0 1 20 0;c0 0 1 20 0;"), 20 + 30, 0, 1, 2);
        row("just in time", Boards.of("c0 0 1 20 0;c0 0 1 10 0;c0 0 1 20 0;"), 10 + 30, 1, 0, 2);
        row("a minute ahead", Boards.of("c0 0 1 20 0;c0 0 1 9 0;c0 0 1 20 0;"), 9 + 29, 1, 0, 2);
        row("a minute late", Boards.of("c0 0 1 20 0;c0 0 1 11 0;c0 0 1 20 0;"), 11 + 30, 1, 0, 2);
        row("the third is never plugged", Boards.of("c0 0 1 11 0;c0 0 1 20 0;c0 0 1 19 0;"),
                11 + 30, 0, 1, 2);
        row("what is behind does not count", Boards.of("c0 0 1 20 0;".repeat(7)), 20 + 5 * 30,
                0, 1, 2, 3, 4, 5, 6);
    }

    // "(past MINUTE 99, too; so in .. BEST ROW)"
    private void bestRowPastMinute99() {
        BoardCords x = Past.board("c0 0 1 20 0;c0 0 1 5 0;c0 0 1 20 0;").thenMinutes(99).object();
        row("at 99", x, 3 * 99 + 5 + 25, 1, 0, 2);
        BoardCords y = Past.board("c0 0 1 20 0;c0 0 1 5 0;").thenMinutes(99).then(o -> o.plugs(0))
                .object();
        row("who talks is done past 99", y, 99 + 20, 1);
    }

    // "who FALLS later is not PLUGGED"
    private void bestRowWhoFallsLater() {
        BoardCords x = Boards.of("l4;c0 0 1 3 0;c0 0 1 5 0;c1 0 1 1 0;c3 0 1 1 0;");
        row("neither in the row nor on the lines", x, 3, 0, 1);
        BoardCords none = Boards.of("c1 0 1 3 0;c40 0 1 5 0;");
        row("all fall later", none, 0);
    }

    // "how much (what they WAITED ahead of NOW, too)": they, and nobody else
    private void bestRowAheadOfNow() {
        Past past = Past.board("l4;x2;c0 0 1 1 0;c0 2 3 9 0;c0 2 3 2 0;c2 2 3 1 0;").thenMinutes(4)
                .then(x -> {
                    x.plugs(0);
                    x.plugs(1);
                    x.minute();
                    x.pulls(1);
                });
        row("behind four minutes", past.object(), 5 + 3 + 1, 3, 2);
    }

    // "cutFor: .. BAD"
    private void cutForNoSuchCall() {
        for (int calls = 0; calls <= 7; calls++) {
            BoardCords x = Edges.waiting(2, calls).object();
            check.holds("cutFor of " + calls, Edges.holdsJustFor(0, calls - 1,
                    c -> x.cutFor(c) == 0));
        }
        for (int c : Edges.outside(0, 6)) {
            check.changesNothing("cutFor " + c, BUSY, x -> x.cutFor(c), BAD);
        }
        check.changesNothing("cutFor of no calls", Past.NONE, x -> x.cutFor(0), BAD);
    }

    // "STATE: it does not WAIT."
    private void cutForWhatDoesNotWait() {
        for (int c : new int[] {0, 1, 3, 4, 5}) {
            check.changesNothing("cutFor " + c, BUSY, x -> x.cutFor(c), STATE);
        }
        check.changesNothing("it waits", BUSY, x -> x.cutFor(6), 1 << 3);
    }

    // "to be PULLED so that it can be PLUGGED NOW: the fewest": none, if it can be
    private void cutForNobody() {
        Past past = Past.board("l6;x2;c0 0 1 9 0;c0 2 3 1 0;c0 4 5 9 0;");
        check.due("nobody talks", past.object().cutFor(2), 0);
        check.due("a cord is free", past.then(x -> x.plugs(0)).object().cutFor(2), 0);
        Past both = past.then(x -> {
            x.plugs(0);
            x.plugs(1);
        });
        check.due("no cord", both.object().cutFor(2), 2);
        check.due("a cord behind a minute", both.thenMinutes(1).object().cutFor(2), 0);
    }

    // "the fewest": whose lines are needed, and no more
    private void cutForTheFewest() {
        String text = "l6;x3;c0 0 1 20 0;c0 2 3 1 0;c0 4 5 1 0;c0 0 2 1 0;c0 1 0 1 0;c0 5 4 1 0;";
        Past all = Past.board(text).then(x -> {
            x.plugs(0);
            x.plugs(1);
            x.plugs(2);
        });
        check.due("two lines of two", all.object().cutFor(3), 3);
        check.due("two lines of one, though much is left", all.object().cutFor(4), 1);
        check.due("two lines of the last one", all.object().cutFor(5), 4);
        Past one = all.then(x -> x.pulls(1));
        check.due("one line", one.object().cutFor(3), 1);
        Past last = Past.board("l6;x3;" + "c0 0 1 9 0;".repeat(4) + "c0 0 2 1 0;c0 4 5 9 0;"
                + "c0 2 3 9 0;").then(x -> {
                    x.plugs(3);
                    x.plugs(5);
                    x.plugs(6);
                });
        check.due("the last call's bit", last.object().cutFor(4), 1 << 3 | 1 << 6);
    }

    // "of as few those to whom least is LEFT in all"
    private void cutForLeastLeft() {
        Past past = Past.board("l6;x2;c0 0 1 5 0;c0 2 3 4 0;c0 4 5 9 0;").then(x -> {
            x.plugs(0);
            x.plugs(1);
        });
        check.due("the second", past.object().cutFor(2), 2);
        Past earlier = Past.board("l6;x2;c0 0 1 5 0;c0 2 3 4 0;c0 4 5 9 0;").then(x -> x.plugs(0))
                .thenMinutes(2).then(x -> x.plugs(1));
        check.due("what is left, not how long", earlier.object().cutFor(2), 1);
    }

    // "then the least bits"
    private void cutForLeastBits() {
        Past past = Past.board("l6;x2;c0 4 5 9 0;c0 0 1 5 0;c0 2 3 4 0;").then(x -> x.plugs(1))
                .thenMinutes(1).then(x -> x.plugs(2));
        check.due("as much is left to both", past.object().cutFor(0), 2);
        check.due("a minute later, too", past.thenMinutes(1).object().cutFor(0), 2);
    }

    // "(Nothing is changed.)"
    private void nothingIsChanged() {
        for (Past past : new Past[] {BUSY, Past.NONE, Edges.waiting(6, 7), BUSY.thenMinutes(95)}) {
            for (int rule = 0; rule <= 2; rule++) {
                int by = rule;
                for (int what = 0; what <= 2; what++) {
                    int asked = what;
                    check.onlyAsks(past, x -> x.byRule(by, 60, asked));
                    check.onlyAsks(past, x -> x.byRule(by, 1, asked));
                }
                check.onlyAsks(past, x -> x.enough(by));
            }
            for (int k = -1; k <= 7; k++) {
                int asked = k;
                check.onlyAsks(past, x -> x.bestRow(asked));
                check.onlyAsks(past, x -> x.cutFor(asked));
            }
        }
    }
}
