import java.io.IOException;
import java.lang.management.ManagementFactory;
import java.lang.reflect.Constructor;
import java.lang.reflect.Field;
import java.lang.reflect.Method;
import java.lang.reflect.Modifier;
import java.nio.file.Files;
import java.nio.file.Path;
import java.util.Arrays;
import java.util.List;
import java.util.TreeSet;
import java.util.regex.Matcher;
import java.util.regex.Pattern;

/** The rules of LANGUAGE.md that a program can look at, and that no call makes an object. */
public final class LanguageTest {
    private static final List<String> FACE = List.of(
            "int type(int)", "int clear()", "int board()", "int line(int,int)",
            "int call(int,int)", "int now(int)", "int minute()", "int plugs(int)",
            "int pulls(int)", "int swaps(int,int)", "int undo()", "int byRule(int,int,int)",
            "int enough(int)", "int bestRow(int)", "int cutFor(int)", "int longCords()",
            "int change()", "int bestHoles(int)", "int atOnce(int)", "int under(int)",
            "int odds(int,int,int,int)", "int rate(int,int)", "int keep(int)", "int back(int)",
            "int count(int)", "long trace()");

    private static final List<String> BANNED = List.of(
            "throw", "throws", "try", "catch", "finally", "synchronized", "assert", "import",
            "package", "volatile", "transient", "native", "Object", "hashCode", "equals",
            "toString", "Exact", "System.out", "System.err", "nanoTime", "Random", "Thread",
            "->", "::", "@", "double", "float");

    private final Check check = new Check();

    public static void main(String[] args) throws IOException {
        LanguageTest t = new LanguageTest();
        t.face();
        t.nested();
        String source = Files.readString(Path.of("src/main/java/BoardCords.java"));
        t.words(source);
        t.lengths(source);
        t.room();
        t.check.end();
    }

    private void holds(String what, boolean so) {
        check.holds(what, so);
    }

    private static String spelled(Method m) {
        StringBuilder s = new StringBuilder(m.getReturnType() + " " + m.getName() + "(");
        for (int i = 0; i < m.getParameterCount(); i++) {
            s.append(i == 0 ? "" : ",").append(m.getParameterTypes()[i]);
        }
        return s.append(")").toString();
    }

    private void face() {
        Class<?> program = BoardCords.class;
        holds("public", Modifier.isPublic(program.getModifiers()));
        holds("final", Modifier.isFinal(program.getModifiers()));
        TreeSet<String> open = new TreeSet<>();
        for (Method m : program.getDeclaredMethods()) {
            if (Modifier.isPublic(m.getModifiers())) {
                open.add(spelled(m));
                holds(m + " is of the object", !Modifier.isStatic(m.getModifiers()));
            } else {
                holds(m + " is private", Modifier.isPrivate(m.getModifiers()));
            }
        }
        holds("the face, and no more: " + open, open.equals(new TreeSet<>(FACE)));
        Constructor<?>[] made = program.getDeclaredConstructors();
        holds("one constructor", made.length == 1 && made[0].getParameterCount() == 0
                && Modifier.isPublic(made[0].getModifiers()));
        TreeSet<String> constants = new TreeSet<>();
        for (Field f : program.getDeclaredFields()) {
            if (Modifier.isPublic(f.getModifiers())) {
                constants.add(f.getName());
                holds(f + " is a constant", Modifier.isStatic(f.getModifiers())
                        && Modifier.isFinal(f.getModifiers()) && f.getType() == int.class);
            } else {
                holds(f + " is private", Modifier.isPrivate(f.getModifiers()));
            }
        }
        holds("the constants, and no more", constants.equals(
                new TreeSet<>(Arrays.asList("BAD", "STATE", "FULL", "NONE", "NO"))));
    }

    private void nested() {
        TreeSet<String> open = new TreeSet<>();
        for (String s : FACE) {
            open.add(s.replaceAll("^\\w+ (\\w+).*", "$1"));
        }
        Class<?>[] classes = BoardCords.class.getDeclaredClasses();
        holds("at most twelve classes", classes.length < 12);
        for (Class<?> c : classes) {
            holds(c + " is static", Modifier.isStatic(c.getModifiers()));
            holds(c + " is not public", !Modifier.isPublic(c.getModifiers()));
            int fields = 0;
            for (Field f : c.getDeclaredFields()) {
                if (Modifier.isStatic(f.getModifiers())) {
                    holds(f + " is final", Modifier.isFinal(f.getModifiers()));
                } else {
                    fields++;
                }
            }
            holds(c + " has at most twenty fields", fields <= 20);
            for (Method m : c.getDeclaredMethods()) {
                holds(m + " has no name of the face", !open.contains(m.getName()));
                holds(m + " takes at most seven", m.getParameterCount() <= 7);
            }
        }
    }

    private static String bare(String source) {
        return source.replaceAll("(?s)/\\*.*?\\*/", "").replaceAll("//[^\n]*", "");
    }

    private void words(String source) {
        String code = bare(source);
        for (String word : BANNED) {
            String sign = Character.isLetter(word.charAt(0))
                    ? "\\b" + Pattern.quote(word) + "\\b" : Pattern.quote(word);
            holds("no " + word, !Pattern.compile(sign).matcher(code).find());
        }
        holds("no while (true)", !code.contains("while (true)") && !code.contains("for (;;)"));
        Matcher library = Pattern.compile("\\b(System|Arrays|Math|Integer|Long)\\.(\\w+)")
                .matcher(code);
        List<String> allowed = List.of("arraycopy", "abs", "min", "max", "bitCount");
        while (library.find()) {
            holds(library.group() + " is listed", allowed.contains(library.group(2)));
        }
        for (char sign : source.toCharArray()) {
            if (sign > 126) {
                holds("sign " + (int) sign + " in the source", false);
            }
        }
    }

    /** A method begins at a line that ends in ") {" and is no statement, and ends where it began. */
    private void lengths(String source) {
        String[] lines = source.split("\n");
        for (int i = 0; i < lines.length; i++) {
            Matcher head = Pattern.compile("^( +)[a-zA-Z][\\w\\[\\] ]* \\w+\\([^()]*\\) \\{$")
                    .matcher(lines[i]);
            if (!head.find() || lines[i].trim().matches("(if|for|while|switch|else) .*")) {
                continue;
            }
            int end = i;
            while (end < lines.length && !lines[end].equals(head.group(1) + "}")) {
                end++;
            }
            holds(lines[i].trim() + " is short", end - i < 60);
        }
    }

    private static long callAll(BoardCords x, String text) {
        long sum = 0;
        for (int i = 0; i < text.length(); i++) {
            sum += x.type(text.charAt(i));
        }
        sum += x.board() + x.clear();
        for (int i = -1; i < 8; i++) {
            sum += x.line(i, 1) + x.call(i, 5) + x.now(i) + x.minute() + x.plugs(i);
            sum += x.byRule(i, 60, 1) + x.enough(i) + x.bestRow(i) + x.cutFor(i);
            sum += x.longCords() + x.change() + x.bestHoles(i) + x.atOnce(i) + x.under(i);
            sum += x.odds(i, 3, 5, 0) + x.rate(i, 0) + x.keep(i) + x.count(i) + x.trace();
            sum += x.pulls(i) + x.swaps(i, 1) + x.undo() + x.back(i);
        }
        return sum;
    }

    /** All calls of a run live in one room, so that they must not fill it. */
    private void room() {
        com.sun.management.ThreadMXBean threads =
                (com.sun.management.ThreadMXBean) ManagementFactory.getThreadMXBean();
        long self = Thread.currentThread().getId();
        String text = "l6;x2;c0 0 1 3 1;c0 1 2 4 2;c0 2 3 5 3;c0 3 4 6 4;c0 4 5 7 5;c0 5 0 8 6;";
        // the first calls of all load what the machine needs
        long sum = callAll(new BoardCords(), text);
        long used = 0;
        for (int i = 0; i < 20; i++) {
            BoardCords x = new BoardCords();
            long ahead = threads.getThreadAllocatedBytes(self);
            sum += callAll(x, text);
            used += threads.getThreadAllocatedBytes(self) - ahead;
        }
        holds("calls make no objects: " + used + " bytes", used < 4096);
        long before = threads.getThreadAllocatedBytes(self);
        for (int i = 0; i < 100; i++) {
            sum += new BoardCords().count(0);
        }
        used = (threads.getThreadAllocatedBytes(self) - before) / 100;
        holds("an object is small: " + used + " bytes", used > 0 && used < 8192 && sum != 0);
    }
}
