import java.io.IOException;
import java.lang.reflect.InvocationTargetException;
import java.lang.reflect.Method;
import java.nio.file.Files;
import java.nio.file.Path;
import java.util.NoSuchElementException;
import java.util.regex.Matcher;
import java.util.regex.Pattern;

/** Makes the calls of README.md's example as they stand there, and names every call of the face that it leaves out. */
public final class ReadmeTest {
    private static final Pattern TOLD = Pattern.compile("tell\\(x, \"(.*)\"\\);");
    private static final Pattern CALL = Pattern.compile("x\\.(\\w+)\\((.*)\\); +// (?:throws )?([-\\w]+): .*");

    public static void main(String[] args) throws IOException, IllegalAccessException {
        Check check = new Check();
        YearKnot x = new YearKnot();
        String page = Files.readString(Path.of("README.md"));
        int calls = 0;
        for (String line : page.split("\n")) {
            Matcher told = TOLD.matcher(line);
            Matcher call = CALL.matcher(line);
            if (told.matches()) {
                tell(x, told.group(1));
            } else if (call.matches()) {
                calls++;
                check.due(line, answer(x, call.group(1), call.group(2)), call.group(3));
            } else if (line.startsWith("x.")) {
                check.due(line, "no answer is told", "an answer");
            }
        }
        check.due("the example stands there", calls > 20, true);
        for (Method method : YearKnot.class.getDeclaredMethods()) {
            boolean open = java.lang.reflect.Modifier.isPublic(method.getModifiers());
            check.due(method.getName() + " stands there", open && !page.contains(method.getName() + "("), false);
        }
        check.end();
    }

    // As README.md has it.
    private static void tell(YearKnot x, String text) {
        for (int i = 0; i < text.length(); i += 24) {
            long[] eights = new long[3];
            for (int k = 0; k < 24; k++) {
                int sign = i + k < text.length() ? text.charAt(i + k) : 0;
                eights[k / 8] = eights[k / 8] << 8 | sign;
            }
            x.feed(eights[0], eights[1], eights[2]);
        }
    }

    private static String answer(YearKnot x, String name, String told) throws IllegalAccessException {
        String[] words = told.isEmpty() ? new String[0] : told.split(", ");
        Object[] values = new Object[words.length];
        for (int i = 0; i < words.length; i++) {
            values[i] = value(words[i]);
        }
        for (Method method : YearKnot.class.getDeclaredMethods()) {
            if (method.getName().equals(name) && method.getParameterCount() == values.length) {
                try {
                    return String.valueOf(method.invoke(x, values));
                } catch (InvocationTargetException e) {
                    boolean named = e.getCause() instanceof NoSuchElementException;
                    return named ? "NoSuchElementException" : String.valueOf(e.getCause());
                }
            }
        }
        return "there is no such call";
    }

    private static Object value(String word) {
        if (word.equals("true") || word.equals("false")) {
            return Boolean.valueOf(word);
        }
        return word.equals("YearKnot.NONE") ? Integer.valueOf(YearKnot.NONE) : Integer.valueOf(word);
    }
}
