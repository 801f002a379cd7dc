import java.io.IOException;
import java.lang.reflect.Method;
import java.lang.reflect.Modifier;
import java.nio.file.Files;
import java.nio.file.Path;
import java.util.regex.Matcher;
import java.util.regex.Pattern;

/** What README.md says of the class: its example is called line by line, and its tables name each call. */
public final class ReadmeTest {
    private static final Pattern ANSWERED = Pattern.compile("it\\.(\\w+)\\(([^()]*)\\); +// (-?\\d+).*");
    private static final Pattern TYPED = Pattern.compile("it\\.type\\((\\d), '(.)'\\);.*");
    private static final Pattern WOOD = Pattern.compile("String wood = \"(.*)\";.*");
    private static final Checks checks = new Checks();

    private static Method method(String name) {
        for (Method method : NewOrBack.class.getDeclaredMethods()) {
            if (Modifier.isPublic(method.getModifiers()) && method.getName().equals(name)) {
                return method;
            }
        }
        throw new IllegalArgumentException(name);
    }

    private static long answer(NewOrBack it, String name, String told) throws ReflectiveOperationException {
        String[] words = told.isEmpty() ? new String[0] : told.split(", ");
        Object[] numbers = new Object[words.length];
        for (int i = 0; i < words.length; i++) {
            numbers[i] = words[i].equals("NewOrBack.NONE") ? NewOrBack.NONE : Integer.parseInt(words[i]);
        }
        return ((Number) method(name).invoke(it, numbers)).longValue();
    }

    private static void example(String text) throws ReflectiveOperationException {
        NewOrBack it = new NewOrBack();
        int answered = 0;
        int typed = 0;
        for (String line : text.split("\n")) {
            Matcher answer = ANSWERED.matcher(line);
            Matcher typing = TYPED.matcher(line);
            Matcher wood = WOOD.matcher(line);
            if (wood.matches()) {
                Bench.type(it, 0, wood.group(1));
            } else if (typing.matches()) {
                it.type(Integer.parseInt(typing.group(1)), typing.group(2).charAt(0));
                typed++;
            } else if (answer.matches()) {
                checks.due(line, answer(it, answer.group(1), answer.group(2)), Long.parseLong(answer.group(3)));
                answered++;
            }
        }
        checks.due("steps typed", typed, 2);
        checks.due("answers told", answered, 12);
    }

    private static void tables(String text) {
        for (Method method : NewOrBack.class.getDeclaredMethods()) {
            if (Modifier.isPublic(method.getModifiers())) {
                Matcher row = Pattern.compile("\\| `" + method.getName() + "\\(([^)]*)\\)` \\|").matcher(text);
                boolean isThere = row.find();
                checks.isTrue("a row of " + method.getName(), isThere);
                int told = !isThere ? NewOrBack.NONE : row.group(1).isEmpty() ? 0 : row.group(1).split(", ").length;
                checks.due("numbers of " + method.getName(), told, method.getParameterCount());
            }
        }
    }

    public static void main(String[] args) throws IOException, ReflectiveOperationException {
        String text = Files.readString(Path.of("README.md"));
        example(text);
        tables(text);
        checks.end();
    }
}
