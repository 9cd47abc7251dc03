/**
 * All that can be told of an object with a past: what is seen, what can be undone, the images, the
 * text. Each part is asked of a new object with that past, as asking for one part changes others,
 * and as an object is good for 512 calls only.
 */
final class Whole {
    private static final int MORE_THAN_ARE_KNOWN = 11;

    private Whole() {
    }

    static String of(Past past) {
        StringBuilder s = new StringBuilder();
        for (int undone = 0; undone <= MORE_THAN_ARE_KNOWN; undone++) {
            addUndone(s, past.object(), undone);
        }
        for (int image = 0; image <= 1; image++) {
            BoardCords x = past.object();
            s.append("\nimage ").append(image).append(": ").append(x.back(image));
            addSeen(s, x);
        }
        addText(s, past);
        return s.toString();
    }

    /** What can be seen now, and nothing else. */
    static String seen(Past past) {
        return seen(past.object());
    }

    static String seen(BoardCords x) {
        StringBuilder s = new StringBuilder();
        addSeen(s, x);
        return s.toString();
    }

    private static void addUndone(StringBuilder s, BoardCords x, int undone) {
        s.append("\nundone ").append(undone).append(':');
        for (int i = 0; i < undone; i++) {
            s.append(' ').append(x.undo());
        }
        addSeen(s, x);
    }

    /** Letters can not be seen: so they are read, as they are, and with ends that they may want. */
    private static void addText(StringBuilder s, Past past) {
        for (String end : new String[] {"", ";", " 1;", "?"}) {
            BoardCords x = past.object();
            Boards.write(x, end);
            s.append("\ntext: ").append(x.board()).append(' ').append(x.clear());
            addSeen(s, x);
        }
    }

    private static void addSeen(StringBuilder s, BoardCords x) {
        s.append(" now");
        for (int what = 0; what < 6; what++) {
            s.append(' ').append(x.now(what));
        }
        s.append(" count");
        for (int what = 0; what < 4; what++) {
            s.append(' ').append(x.count(what));
        }
        s.append(" lines");
        for (int l = 0; l < 6; l++) {
            s.append(' ').append(x.line(l, 0)).append(' ').append(x.line(l, 1));
        }
        s.append(" calls");
        for (int c = 0; c < 7; c++) {
            for (int what = 0; what < 8; what++) {
                s.append(' ').append(x.call(c, what));
            }
        }
        s.append(" trace ").append(x.trace());
    }
}
