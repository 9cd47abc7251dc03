/** Makes objects by texts. */
final class Boards {
    private Boards() {
    }

    static void write(BoardCords x, String text) {
        for (int i = 0; i < text.length(); i++) {
            x.type(text.charAt(i));
        }
    }

    /** A new object that has read the text. */
    static BoardCords of(String text) {
        BoardCords x = new BoardCords();
        write(x, text);
        x.board();
        return x;
    }

    /** What a new object answers to the text. */
    static int answer(String text) {
        BoardCords x = new BoardCords();
        write(x, text);
        return x.board();
    }
}
