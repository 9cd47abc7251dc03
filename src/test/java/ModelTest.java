import java.util.Random;

/**
 * Runs of chosen calls, the same ones each time: the program against the slow model. No object is
 * asked more than 512 times, as nothing is promised of it behind that.
 */
public final class ModelTest {
    private static final int RUNS = 5000;
    private static final int TEXTS = 20000;
    private static final int MOST_CALLS = 512;
    private static final int LOOK_AT_ALL = 90;

    private final Check check = new Check();
    private final Random random = new Random(20261118L);
    private BoardCords x;
    private Model model;
    private String run;
    private int used;

    public static void main(String[] args) {
        ModelTest test = new ModelTest();
        for (int i = 0; i < RUNS; i++) {
            test.goThrough(i);
        }
        for (int i = 0; i < TEXTS; i++) {
            test.readSpoilt(i);
        }
        test.check.end();
    }

    private void begin(String name) {
        run = name;
        x = new BoardCords();
        model = new Model();
        used = 0;
    }

    private void due(String what, long got, long want) {
        used++;
        // the run is long to write, and is told only where something is wrong
        check.due(got == want ? what : run + what, got, want);
    }

    /** Whether so many calls may come, and all be looked at behind them. */
    private boolean hasRoomFor(int calls) {
        return used + calls + LOOK_AT_ALL <= MOST_CALLS;
    }

    private int pick(int least, int most) {
        return least + random.nextInt(most - least + 1);
    }

    private boolean chance(int ofHundred) {
        return random.nextInt(100) < ofHundred;
    }

    private void goThrough(int number) {
        begin("run " + number + ": ");
        read(boardText());
        while (hasRoomFor(5)) {
            doSomething();
            askSomething();
            askSomething();
            askSomething();
            lookAtSomething();
            String text = chance(50) ? boardText() : spoilt(boardText());
            if (chance(1) && hasRoomFor(text.length() + 2)) {
                read(text);
            }
        }
        lookAtAll();
    }

    /** A text alone: most of them with a fault somewhere. */
    private void readSpoilt(int number) {
        begin("text " + number + ": ");
        String text = boardText();
        for (int k = pick(0, 2); k > 0; k--) {
            text = spoilt(text);
        }
        read(text);
        lookAtAll();
        due("clear", x.clear(), model.clear());
    }

    private void read(String text) {
        run += "[" + text + "] ";
        for (int i = 0; i < text.length(); i++) {
            due("type", x.type(text.charAt(i)), model.type(text.charAt(i)));
        }
        due("board()", x.board(), model.board());
        if (chance(50)) {
            due("clear()", x.clear(), model.clear());
        }
    }

    private String blanks(int least) {
        return " ".repeat(least + (chance(10) ? pick(0, 2) : 0));
    }

    private String item(int sign, int... numbers) {
        StringBuilder s = new StringBuilder(blanks(0)).append((char) sign);
        for (int i = 0; i < numbers.length; i++) {
            s.append(blanks(i == 0 ? 0 : 1)).append(numbers[i]);
        }
        return s.append(blanks(0)).append(';').append(blanks(0)).toString();
    }

    private String boardText() {
        StringBuilder s = new StringBuilder();
        int lines = chance(90) ? pick(2, 6) : 2;
        if (lines != 2 || chance(50)) {
            s.append(item('l', lines));
        }
        int calls = pick(0, 7);
        int latest = chance(40) ? 0 : chance(50) ? 4 : 40;
        int longest = chance(50) ? 4 : 20;
        boolean cordsTold = chance(25);
        for (int i = 0; i < calls + 3; i++) {
            if (!cordsTold && chance(25)) {
                s.append(item('x', pick(1, 4)));
                cordsTold = true;
            }
            if (chance(15)) {
                s.append(item('h', pick(0, lines - 1), pick(0, lines - 1)));
            }
            if (i < calls) {
                int from = pick(0, lines - 1);
                int to = (from + pick(1, lines - 1)) % lines;
                s.append(item('c', pick(0, latest), from, to, pick(1, longest), pick(0, 9)));
            }
        }
        return s.toString();
    }

    /** One letter less, more or another one; or another number in it. */
    private String spoilt(String text) {
        int at = pick(0, text.length());
        String head = text.substring(0, at);
        String tail = text.substring(at);
        int way = pick(0, 5);
        if (way == 0 && !tail.isEmpty()) {
            return head + tail.substring(1);
        }
        if (way == 1) {
            return head;
        }
        String signs = "lxhc;; 0123456789!\t\n\0LC-\u00ff\u00a0";
        String sign = way == 2 ? " " + pick(0, 120) + " "
                : String.valueOf(signs.charAt(random.nextInt(signs.length())));
        return head + sign + (way > 3 && !tail.isEmpty() ? tail.substring(1) : tail);
    }

    /** Mostly what there is; at times one beyond, or far off. */
    private int aCall() {
        int most = model.count(2) - 1;
        return chance(4) ? far() : most >= 0 && chance(96) ? pick(0, most) : pick(-1, most + 1);
    }

    private int aLine() {
        return chance(4) ? far() : chance(96) ? pick(0, model.count(0) - 1)
                : pick(-1, model.count(0));
    }

    private int about(int most) {
        return chance(3) ? far() : chance(95) ? pick(0, most) : pick(-1, most + 1);
    }

    private int far() {
        int[] far = {Integer.MIN_VALUE, Integer.MAX_VALUE, -2, 7, 6, 1 << 16, -1000};
        return far[random.nextInt(far.length)];
    }

    private void doSomething() {
        int c = aCall();
        int a = aLine();
        int b = aLine();
        int image = about(1);
        int way = pick(0, 99);
        if (way < 30) {
            due("minute()", x.minute(), model.minute());
        } else if (way < 65) {
            due("plugs " + c, x.plugs(c), model.plugs(c));
        } else if (way < 75) {
            due("pulls " + c, x.pulls(c), model.pulls(c));
        } else if (way < 82) {
            due("swaps " + a + " " + b, x.swaps(a, b), model.swaps(a, b));
        } else if (way < 92) {
            due("undo()", x.undo(), model.undo());
        } else if (way < 95) {
            due("keep " + image, x.keep(image), model.keep(image));
        } else if (way < 97) {
            due("back " + image, x.back(image), model.back(image));
        } else {
            for (int i = pick(0, 100); i > 0 && hasRoomFor(5); i--) {
                due("minute()", x.minute(), model.minute());
            }
        }
    }

    private void askSomething() {
        switch (pick(0, 5)) {
            case 0 -> askOfRules();
            case 1 -> askOfRows();
            case 2, 3 -> askOfHoles();
            default -> askOfCalls();
        }
    }

    private void askOfRules() {
        int rule = about(2);
        int what = about(2);
        int n = about(60);
        if (chance(60)) {
            due("byRule " + rule + " " + n + " " + what,
                    x.byRule(rule, n, what), model.byRule(rule, n, what));
        } else {
            due("enough " + rule, x.enough(rule), model.enough(rule));
        }
    }

    private void askOfRows() {
        int l = aLine();
        // the model is slow where many wait
        boolean slow = Integer.bitCount(model.now(1)) > 5;
        int k = slow && chance(95) ? -2 : chance(50) ? -1 : about(7);
        if (chance(60)) {
            due("bestRow " + k, x.bestRow(k), model.bestRow(k));
        } else {
            int line = chance(30) ? -1 : l;
            due("bestHoles " + line, x.bestHoles(line), model.bestHoles(line));
        }
    }

    private void askOfHoles() {
        int l = aLine();
        int p = about(10);
        int m = chance(60) ? pick(0, 8) : about(40);
        int what = about(1);
        switch (pick(0, 4)) {
            case 0 -> due("longCords()", x.longCords(), model.longCords());
            case 1 -> due("change()", x.change(), model.change());
            case 2 -> due("atOnce " + what, x.atOnce(what), model.atOnce(what));
            default -> due("odds " + l + " " + p + " " + m + " " + what,
                    x.odds(l, p, m, what), model.odds(l, p, m, what));
        }
    }

    private void askOfCalls() {
        int c = aCall();
        int kind = about(5);
        switch (pick(0, 2)) {
            case 0 -> due("cutFor " + c, x.cutFor(c), model.cutFor(c));
            case 1 -> due("under " + c, x.under(c), model.under(c));
            default -> due("rate " + kind + " " + c, x.rate(kind, c), model.rate(kind, c));
        }
    }

    private void lookAtSomething() {
        int c = aCall();
        int l = aLine();
        int what = about(7);
        switch (pick(0, 4)) {
            case 0 -> due("count " + what, x.count(what), model.count(what));
            case 1 -> due("line " + l + " " + what, x.line(l, what), model.line(l, what));
            case 2 -> due("call " + c + " " + what, x.call(c, what), model.call(c, what));
            case 3 -> due("trace()", x.trace(), model.trace());
            default -> due("now " + what, x.now(what), model.now(what));
        }
    }

    private void lookAtAll() {
        for (int what = 0; what <= 6; what++) {
            due("now " + what, x.now(what), model.now(what));
        }
        for (int what = 0; what <= 4; what++) {
            due("count " + what, x.count(what), model.count(what));
        }
        for (int l = 0; l <= 6; l++) {
            due("hole of " + l, x.line(l, 0), model.line(l, 0));
            due("engaged " + l, x.line(l, 1), model.line(l, 1));
        }
        for (int c = 0; c <= 6; c++) {
            for (int what = 0; what <= 7; what++) {
                due("call " + c + " " + what, x.call(c, what), model.call(c, what));
            }
        }
        due("trace()", x.trace(), model.trace());
    }
}
