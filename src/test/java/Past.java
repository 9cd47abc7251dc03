/** What was done to an object from its making on: it can be done to as many objects as one likes. */
interface Past {
    /** Nothing was done yet. */
    Past NONE = x -> { };

    void on(BoardCords x);

    default Past then(Past more) {
        return x -> {
            on(x);
            more.on(x);
        };
    }

    default Past thenMinutes(int minutes) {
        return then(x -> {
            for (int i = 0; i < minutes; i++) {
                x.minute();
            }
        });
    }

    default Past thenText(String text) {
        return then(x -> Boards.write(x, text));
    }

    /** A new object with this past. */
    default BoardCords object() {
        BoardCords x = new BoardCords();
        on(x);
        return x;
    }

    static Past board(String text) {
        return NONE.thenText(text).then(x -> x.board());
    }
}
