import java.io.IOException;
import java.lang.reflect.InvocationTargetException;
import java.lang.reflect.Method;
import java.nio.file.Files;
import java.nio.file.Path;
import java.util.regex.Matcher;
import java.util.regex.Pattern;

/** README.md: the calls of its example answer what stands behind them, and it names every call of the class. */
final class ReadmeTest {
    private static final Pattern CALL = Pattern.compile("(?m)^book\\.(\\w+)\\((.*)\\); *// (-?\\d+|true)\\b");

    public static void main(String[] arguments) throws IOException {
        Due due = new Due();
        String page = Files.readString(Path.of("README.md"));
        for (Method method : BettingBook.class.getMethods()) {
            if (method.getDeclaringClass() == BettingBook.class) {
                String name = method.getName();
                due.is(name + " is named", page.contains("`" + name + "`"), true);
            }
        }
        BettingBook book = new BettingBook();
        int calls = 0;
        Matcher call = CALL.matcher(page);
        while (call.find()) {
            calls++;
            long answer = call.group(3).equals("true") ? 1 : Long.parseLong(call.group(3));
            due.is(call.group(), answer(book, call.group(1), call.group(2)), answer);
        }
        due.is("each line of the example is a call with its answer",
            calls, page.lines().filter(line -> line.startsWith("book.")).count());
        due.is("there are some", calls > 0, true);
        due.end();
    }

    /** What the book answers; true is 1. */
    private static long answer(BettingBook book, String name, String numbers) {
        String[] texts = numbers.isEmpty() ? new String[0] : numbers.split(", ");
        Object[] given = new Object[texts.length];
        for (int i = 0; i < texts.length; i++) {
            given[i] = Integer.decode(texts[i]);
        }
        for (Method method : BettingBook.class.getMethods()) {
            if (method.getName().equals(name) && method.getParameterCount() == given.length) {
                return answer(book, method, given);
            }
        }
        throw new IllegalArgumentException("no such call: " + name + "(" + numbers + ")");
    }

    private static long answer(BettingBook book, Method method, Object[] given) {
        try {
            Object answer = method.invoke(book, given);
            return answer instanceof Boolean ? ((Boolean) answer ? 1 : 0) : ((Number) answer).longValue();
        } catch (InvocationTargetException | IllegalAccessException thrown) {
            throw new IllegalStateException(thrown);
        }
    }
}
