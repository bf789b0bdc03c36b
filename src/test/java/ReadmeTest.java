import java.io.IOException;
import java.lang.reflect.InvocationTargetException;
import java.lang.reflect.Method;
import java.lang.reflect.Modifier;
import java.nio.charset.StandardCharsets;
import java.nio.file.Files;
import java.nio.file.Path;
import java.util.Set;
import java.util.TreeSet;
import java.util.regex.Matcher;
import java.util.regex.Pattern;

/** README.md tells the truth: its example answers what stands there, its table has every call of the face. */
public final class ReadmeTest {
    private static final Pattern CALL = Pattern.compile("pages\\.(\\w+)\\(([^)]*)\\);\\s*// (.*)");
    private static final Pattern ANSWER = Pattern.compile("(-?\\d+|true|false): .*");
    private static final Pattern ROW = Pattern.compile("\\| `(\\w+)\\(([^)]*)\\)` \\|.*");

    public static void main(String[] args) throws IOException, ReflectiveOperationException {
        String readme = Files.readString(Path.of("README.md"), StandardCharsets.UTF_8);
        Set<String> called = new TreeSet<>();
        Set<String> told = new TreeSet<>();
        PlainPages pages = new PlainPages();
        for (String line : readme.split("\n")) {
            Matcher call = CALL.matcher(line);
            Matcher row = ROW.matcher(line);
            if (call.matches()) {
                called.add(call.group(1));
                make(pages, call.group(1), call.group(2), call.group(3));
            } else if (row.matches()) {
                told.add(row.group(1));
                int parameters = arguments(row.group(2)).length;
                Desk.due("parameters of " + row.group(1), parameters, method(row.group(1)).getParameterCount());
            }
        }
        Desk.due("the calls of the example", called, face());
        Desk.due("the calls of the table", told, face());
        Desk.close("ReadmeTest");
    }

    private static Set<String> face() {
        Set<String> names = new TreeSet<>();
        for (Method method : PlainPages.class.getDeclaredMethods()) {
            if (Modifier.isPublic(method.getModifiers())) {
                names.add(method.getName());
            }
        }
        return names;
    }

    private static Method method(String name) throws NoSuchMethodException {
        for (Method method : PlainPages.class.getDeclaredMethods()) {
            if (method.getName().equals(name)) {
                return method;
            }
        }
        throw new NoSuchMethodException(name);
    }

    private static String[] arguments(String list) {
        return list.isEmpty() ? new String[0] : list.split(", ");
    }

    /** A comment that begins with an answer and a colon says what is due; another one says nothing of it. */
    private static void make(PlainPages pages, String name, String list, String comment)
        throws NoSuchMethodException, IllegalAccessException, InvocationTargetException {
        String[] words = arguments(list);
        Object[] values = new Object[words.length];
        for (int i = 0; i < words.length; i++) {
            values[i] = value(words[i]);
        }
        Method method = method(name);
        Object got = method.invoke(pages, values);
        Matcher answer = ANSWER.matcher(comment);
        boolean answers = method.getReturnType() != void.class;
        Desk.due("README.md tells an answer of " + name, answer.matches(), answers);
        if (answers && answer.matches()) {
            Desk.due(name + "(" + list + ")", String.valueOf(got), answer.group(1));
        }
    }

    private static Object value(String word) {
        if (word.equals("true") || word.equals("false")) {
            return Boolean.valueOf(word);
        }
        return (int) Long.decode(word).longValue();
    }
}
