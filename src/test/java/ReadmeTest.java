import java.io.IOException;
import java.lang.reflect.InvocationTargetException;
import java.lang.reflect.Method;
import java.nio.file.Files;
import java.nio.file.Path;
import java.util.HashSet;
import java.util.List;
import java.util.Set;
import java.util.regex.Matcher;
import java.util.regex.Pattern;

/** README.md: its example answers what it says, and it tells of every member of the public face. */
public final class ReadmeTest {
    /** A call, and behind it in a comment its answer, with or without a colon and a reason. */
    private static final Pattern CALL = Pattern.compile("book\\.(\\w+)\\(([^)]*)\\);\\s*// ([^:]+)(:.*)?");
    private static final int METHODS = 7;
    private static final String[] FACE = {"int NONE = -1", "HyphenBook()", "boolean put(long v, int n)",
        "int pattern() throws IllegalArgumentException, IllegalStateException",
        "int exception() throws IllegalArgumentException, IllegalStateException",
        "long word() throws IllegalArgumentException", "boolean least(int left, int right)", "int value(int k)",
        "int count(int what)"};

    public static void main(String[] args) throws IOException, ReflectiveOperationException {
        List<String> lines = Files.readAllLines(Path.of("README.md"));
        for (String member : FACE) {
            Check.due("README.md has a heading for " + member, lines.contains("#### `" + member + "`"), true);
        }
        runExample(lines);
        Check.end();
    }

    private static void runExample(List<String> lines) throws ReflectiveOperationException {
        HyphenBook book = new HyphenBook();
        int from = lines.indexOf("HyphenBook book = new HyphenBook();") + 1;
        Check.due("README.md has an example", from > 0, true);
        Set<String> called = new HashSet<>();
        for (int i = from; i < lines.size() && !lines.get(i).startsWith("```"); i++) {
            Matcher call = CALL.matcher(lines.get(i));
            if (!call.matches()) {
                Check.due("a call and its answer in '" + lines.get(i) + "'", false, true);
                continue;
            }
            String answer = answerOf(book, call.group(1), call.group(2));
            Check.due("'" + lines.get(i) + "' answered " + answer + ": alike", answer.equals(call.group(3)), true);
            called.add(call.group(1));
        }
        Check.due("methods in the example", called.size(), METHODS);
    }

    private static String answerOf(HyphenBook book, String name, String arguments) throws ReflectiveOperationException {
        String[] texts = arguments.isEmpty() ? new String[0] : arguments.split(", ");
        for (Method method : HyphenBook.class.getMethods()) {
            if (method.getName().equals(name)) {
                return answerOf(book, method, texts);
            }
        }
        return "nothing: there is no " + name;
    }

    private static String answerOf(HyphenBook book, Method method, String[] texts) throws ReflectiveOperationException {
        Class<?>[] types = method.getParameterTypes();
        Object[] arguments = new Object[texts.length];
        for (int i = 0; i < texts.length; i++) {
            long number = Long.decode(texts[i].replace("L", ""));
            arguments[i] = types[i] == int.class ? (Object) (int) number : (Object) number;
        }
        try {
            return method.invoke(book, arguments).toString();
        } catch (InvocationTargetException e) {
            return "throws " + e.getCause().getClass().getSimpleName();
        }
    }
}
