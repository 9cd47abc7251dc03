import java.io.IOException;
import java.lang.reflect.Method;
import java.lang.reflect.Modifier;
import java.nio.file.Files;
import java.nio.file.Path;
import java.util.regex.Matcher;
import java.util.regex.Pattern;

/** README.md tells every call, and what it says that calls answer they do answer. */
public final class ReadmeTest {
    private static final Pattern TOLD = Pattern.compile("^for \\(char letter : \"([^\"]*)\"");
    private static final Pattern ASKED =
            Pattern.compile("^x\\.(\\w+)\\(([-0-9, ]*)\\); +// (-?\\d+)");
    private static final Pattern TEXT =
            Pattern.compile("^\\| `([^`]*)` +\\| (-?\\d+) +\\| [^|]+\\|$");
    private static final Pattern CONSTANT =
            Pattern.compile("^\\| `([A-Z]+)` +\\| (-?\\d+) +\\| .*\\|$");

    private final Check check = new Check();

    public static void main(String[] args) throws IOException, ReflectiveOperationException {
        String[] page = Files.readString(Path.of("README.md")).split("\n");
        ReadmeTest t = new ReadmeTest();
        t.example(page);
        t.texts(page);
        t.constants(page);
        t.allCalls(String.join("\n", page));
        t.check.end();
    }

    private void atLeast(String what, int seen, int least) {
        check.holds(what + ": " + seen + " seen", seen >= least);
    }

    private void example(String[] page) throws ReflectiveOperationException {
        BoardCords x = new BoardCords();
        int asked = 0;
        for (String row : page) {
            Matcher told = TOLD.matcher(row);
            if (told.find()) {
                Boards.write(x, told.group(1));
            }
            Matcher call = ASKED.matcher(row);
            if (call.find()) {
                check.due(row, answer(x, call.group(1), call.group(2)),
                        Long.parseLong(call.group(3)));
                asked++;
            }
        }
        atLeast("calls of the example", asked, 8);
    }

    private static long answer(BoardCords x, String name, String numbers)
            throws ReflectiveOperationException {
        String[] parts = numbers.isEmpty() ? new String[0] : numbers.split(", *");
        Class<?>[] types = new Class<?>[parts.length];
        Object[] values = new Object[parts.length];
        for (int i = 0; i < parts.length; i++) {
            types[i] = int.class;
            values[i] = Integer.valueOf(parts[i]);
        }
        return ((Number) BoardCords.class.getMethod(name, types).invoke(x, values)).longValue();
    }

    /** Two backquotes side by side are the empty text. */
    private void texts(String[] page) {
        int read = 0;
        for (String row : page) {
            Matcher m = TEXT.matcher(row);
            if (m.find() && !CONSTANT.matcher(row).find()) {
                check.due(row, Boards.answer(m.group(1)), Long.parseLong(m.group(2)));
                read++;
            }
        }
        atLeast("texts", read, 10);
    }

    private void constants(String[] page) throws ReflectiveOperationException {
        int seen = 0;
        for (String row : page) {
            Matcher m = CONSTANT.matcher(row);
            if (m.find()) {
                check.due(row, BoardCords.class.getField(m.group(1)).getInt(null),
                        Long.parseLong(m.group(2)));
                seen++;
            }
        }
        atLeast("constants", seen, 4);
    }

    private void allCalls(String page) {
        for (Method m : BoardCords.class.getDeclaredMethods()) {
            if (Modifier.isPublic(m.getModifiers())) {
                String row = "\n\\| `" + m.getName() + "\\("
                        + "\\w+, ".repeat(Math.max(0, m.getParameterCount() - 1))
                        + (m.getParameterCount() > 0 ? "\\w+" : "") + "\\)` +\\| ";
                check.holds(m.getName() + " is told with its arguments",
                        Pattern.compile(row).matcher(page).find());
            }
        }
    }
}
