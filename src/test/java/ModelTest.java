import java.util.Random;

/** Long runs of chosen calls, the same ones each time: the program against the slow model. */
public final class ModelTest {
    private static final int RUNS = 1200;
    private static final int STEPS = 160;

    private final Check check = new Check();
    private final Random random = new Random(20261118L);
    private BoardCords x;
    private Model model;
    private String run;

    public static void main(String[] args) {
        ModelTest test = new ModelTest();
        for (int i = 0; i < RUNS; i++) {
            test.goThrough(i);
        }
        test.readTexts();
        test.check.end();
    }

    private int pick(int least, int most) {
        return least + random.nextInt(most - least + 1);
    }

    private boolean chance(int ofHundred) {
        return random.nextInt(100) < ofHundred;
    }

    private void goThrough(int number) {
        run = "run " + number + ": ";
        x = new BoardCords();
        model = new Model();
        read(boardText());
        for (int step = 0; step < STEPS; step++) {
            doSomething();
            askSomething();
            if (step % 8 == 0) {
                lookAtAll();
            }
            if (chance(1)) {
                read(chance(50) ? boardText() : spoilt(boardText()));
            }
        }
        lookAtAll();
    }

    /** Texts alone: most of them with a fault somewhere. */
    private void readTexts() {
        for (int i = 0; i < 20000; i++) {
            run = "text " + i + ": ";
            if (i % 50 == 0) {
                x = new BoardCords();
                model = new Model();
            }
            String text = boardText();
            for (int k = pick(0, 2); k > 0; k--) {
                text = spoilt(text);
            }
            read(text);
            lookAtAll();
            check.due(run + "clear", x.clear(), model.clear());
        }
    }

    private void read(String text) {
        run += "[" + text + "] ";
        for (int i = 0; i < text.length(); i++) {
            check.due(run + "type", x.type(text.charAt(i)), model.type(text.charAt(i)));
        }
        check.due(run + "board()", x.board(), model.board());
        if (chance(50)) {
            check.due(run + "clear()", x.clear(), model.clear());
        }
    }

    private String blanks(int least) {
        return " ".repeat(least + (chance(10) ? pick(0, 2) : 0));
    }

    private String item(int sign, int... numbers) {
        StringBuilder s = new StringBuilder(blanks(0)).append((char) sign);
        for (int i = 0; i < numbers.length; i++) {
            s.append(blanks(i == 0 ? 0 : 1)).append(numbers[i]);
        }
        return s.append(blanks(0)).append(';').append(blanks(0)).toString();
    }

    private String boardText() {
        StringBuilder s = new StringBuilder();
        int lines = chance(90) ? pick(2, 6) : 2;
        if (lines != 2 || chance(50)) {
            s.append(item('l', lines));
        }
        int calls = pick(0, 7);
        int latest = chance(40) ? 0 : chance(50) ? 4 : 40;
        int longest = chance(50) ? 4 : 20;
        boolean cordsTold = chance(25);
        for (int i = 0; i < calls + 3; i++) {
            if (!cordsTold && chance(25)) {
                s.append(item('x', pick(1, 4)));
                cordsTold = true;
            }
            if (chance(15)) {
                s.append(item('h', pick(0, lines - 1), pick(0, lines - 1)));
            }
            if (i < calls) {
                int from = pick(0, lines - 1);
                int to = (from + pick(1, lines - 1)) % lines;
                s.append(item('c', pick(0, latest), from, to, pick(1, longest), pick(0, 9)));
            }
        }
        return s.toString();
    }

    /** One letter less, more or another one; or another number in it. */
    private String spoilt(String text) {
        int at = pick(0, text.length());
        String head = text.substring(0, at);
        String tail = text.substring(at);
        int way = pick(0, 5);
        if (way == 0 && !tail.isEmpty()) {
            return head + tail.substring(1);
        }
        if (way == 1) {
            return head;
        }
        String signs = "lxhc;; 0123456789!\t\n\0LC-\u00ff\u00a0";
        String sign = way == 2 ? " " + pick(0, 120) + " "
                : String.valueOf(signs.charAt(random.nextInt(signs.length())));
        return head + sign + (way > 3 && !tail.isEmpty() ? tail.substring(1) : tail);
    }

    /** Mostly what there is; at times one beyond, or far off. */
    private int aCall() {
        int most = model.count(2) - 1;
        return chance(4) ? far() : most >= 0 && chance(96) ? pick(0, most) : pick(-1, most + 1);
    }

    private int aLine() {
        return chance(4) ? far() : chance(96) ? pick(0, model.count(0) - 1)
                : pick(-1, model.count(0));
    }

    private int about(int most) {
        return chance(3) ? far() : chance(95) ? pick(0, most) : pick(-1, most + 1);
    }

    private int far() {
        int[] far = {Integer.MIN_VALUE, Integer.MAX_VALUE, -2, 7, 6, 1 << 16, -1000};
        return far[random.nextInt(far.length)];
    }

    private void doSomething() {
        int c = aCall();
        int a = aLine();
        int b = aLine();
        int image = about(1);
        int way = pick(0, 99);
        if (way < 30) {
            check.due(run + "minute()", x.minute(), model.minute());
        } else if (way < 65) {
            check.due(run + "plugs " + c, x.plugs(c), model.plugs(c));
        } else if (way < 75) {
            check.due(run + "pulls " + c, x.pulls(c), model.pulls(c));
        } else if (way < 82) {
            check.due(run + "swaps " + a + " " + b, x.swaps(a, b), model.swaps(a, b));
        } else if (way < 92) {
            check.due(run + "undo()", x.undo(), model.undo());
        } else if (way < 96) {
            check.due(run + "keep " + image, x.keep(image), model.keep(image));
        } else if (way < 99) {
            check.due(run + "back " + image, x.back(image), model.back(image));
        } else {
            for (int i = pick(0, 100); i > 0; i--) {
                check.due(run + "minute()", x.minute(), model.minute());
            }
        }
    }

    private void askSomething() {
        int c = aCall();
        int l = aLine();
        int rule = about(2);
        int what = about(2);
        int n = about(60);
        int p = about(10);
        int m = chance(60) ? pick(0, 8) : about(40);
        int kind = about(5);
        // the model is slow where many wait
        int k = model.now(1) == 127 && chance(90) ? -2 : about(7);
        check.due(run + "byRule " + rule + " " + n + " " + what,
                x.byRule(rule, n, what), model.byRule(rule, n, what));
        check.due(run + "enough " + rule, x.enough(rule), model.enough(rule));
        if (chance(20)) {
            check.due(run + "bestRow " + k, x.bestRow(k), model.bestRow(k));
            check.due(run + "bestHoles " + l, x.bestHoles(l), model.bestHoles(l));
            check.due(run + "bestHoles -1", x.bestHoles(-1), model.bestHoles(-1));
        }
        if (chance(10) && model.now(1) != 127) {
            check.due(run + "bestRow -1", x.bestRow(-1), model.bestRow(-1));
        }
        check.due(run + "cutFor " + c, x.cutFor(c), model.cutFor(c));
        check.due(run + "longCords()", x.longCords(), model.longCords());
        check.due(run + "change()", x.change(), model.change());
        check.due(run + "atOnce " + what, x.atOnce(what), model.atOnce(what));
        check.due(run + "under " + c, x.under(c), model.under(c));
        check.due(run + "odds " + l + " " + p + " " + m + " " + what,
                x.odds(l, p, m, what), model.odds(l, p, m, what));
        check.due(run + "rate " + kind + " " + c, x.rate(kind, c), model.rate(kind, c));
    }

    private void lookAtAll() {
        for (int what = -1; what <= 8; what++) {
            check.due(run + "now " + what, x.now(what), model.now(what));
            check.due(run + "count " + what, x.count(what), model.count(what));
            for (int i = -1; i <= 7; i++) {
                check.due(run + "line " + i + " " + what, x.line(i, what), model.line(i, what));
                check.due(run + "call " + i + " " + what, x.call(i, what), model.call(i, what));
            }
        }
        check.due(run + "trace()", x.trace(), model.trace());
    }
}
