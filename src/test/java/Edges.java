import java.util.function.IntPredicate;

/** Numbers about an edge, and boards that reach it. */
final class Edges {
    static final int LOW = Integer.MIN_VALUE, HIGH = Integer.MAX_VALUE;

    private Edges() {
    }

    /** Numbers outside of least .. most: the nearest ones on both sides, and the farthest. */
    static int[] outside(int least, int most) {
        return new int[] {least - 1, most + 1, least - 2, most + 2, least - 256, most + 256,
            -1000000, 1000000, LOW, LOW + 1, HIGH - 1, HIGH};
    }

    /** Whether this holds for each number from least to most, and for none outside of them. */
    static boolean holdsJustFor(int least, int most, IntPredicate fit) {
        for (int n = least; n <= most; n++) {
            if (!fit.test(n)) {
                return false;
            }
        }
        for (int n : outside(least, most)) {
            if (fit.test(n)) {
                return false;
            }
        }
        return true;
    }

    /** So many lines, all cords, and so many calls that wait: each from 0 to 1, 9 minutes long. */
    static Past waiting(int lines, int calls) {
        return Past.board("l" + lines + ";x4;" + "c0 0 1 9 5;".repeat(calls));
    }

    /** Seven calls, each unlike the others, of which the last three can talk at once. */
    static final String SEVEN = "l6;x3;h0 2;c0 0 2 4 1;c0 1 3 5 2;c0 2 4 6 3;c1 3 5 7 4;c0 0 1 8 5;"
            + "c0 2 3 9 6;c0 4 5 10 7;";

    /** The first calls have waited, the last three talk, and nothing was undone. */
    static Past lastTalk() {
        return Past.board(SEVEN).thenMinutes(2).then(x -> {
            x.plugs(4);
            x.plugs(5);
            x.plugs(6);
            x.minute();
        });
    }

    /** The first two calls talk, the last ones have waited, and nothing was undone. */
    static Past firstTalk() {
        return Past.board(SEVEN).thenMinutes(2).then(x -> {
            x.plugs(0);
            x.plugs(1);
            x.minute();
        });
    }

    /**
     * Six lines, three cords, seven calls: 0 is done, 1 and 3 talk, 2 and 6 wait, 4 is cut off, 5 is
     * to come; eleven things were done, both images are kept, a text is begun, the trace is 111113.
     */
    static Past busy() {
        return Past.board("l6;x3;h0 5;c0 0 1 2 9;c0 2 3 9 1;c0 0 2 4 5;c1 4 5 8 7;c2 1 0 5 0;"
                + "c30 3 4 20 4;c2 5 1 1 3;").then(x -> {
            x.swaps(0, 1);
            x.plugs(0);
            x.plugs(1);
            x.minute();
            x.keep(0);
            x.plugs(3);
            x.rate(5, 0);
            x.minute();
            x.plugs(4);
            x.minute();
            x.keep(1);
            x.pulls(4);
            x.rate(3, 2);
            x.minute();
            x.rate(4, 6);
            x.swaps(0, 1);
        }).thenText("l5;x");
    }
}
