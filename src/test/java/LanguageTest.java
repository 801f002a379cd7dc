import java.io.IOException;
import java.lang.reflect.Field;
import java.lang.reflect.Method;
import java.lang.reflect.Modifier;
import java.nio.file.Files;
import java.nio.file.Path;
import java.util.Arrays;
import java.util.List;
import java.util.TreeSet;

/** The face of the class, and those rules of LANGUAGE.md that can be seen from its text. */
public final class LanguageTest {
    private static final Checks checks = new Checks();
    private static final String[] FACE = {"type 2", "wipe 1", "fault 0", "way 2", "home 2", "read 2", "judged 1",
        "place 1", "open 2", "gone 1", "spent 1", "may 2", "soon 2", "still 1", "never 1", "keeps 3", "errands 3",
        "meeting 3", "lent 2", "lost 2", "thread 2", "seen 2", "forget 0", "cameIn 0", "safe 2", "sheet 3", "lose 1",
        "put 4", "get 3", "copy 5", "write 2", "count 1", "digest 0"};
    private static final String[] NOT_ALLOWED = {"throw", "throws", "try", "catch", "finally", "synchronized", "assert",
        "static {", "->", "::", "@", "package", "var", "System.out", "Exact(", "equals(", "hashCode(", "toString(",
        "Random", "Thread.", "Class", "Object", "nanoTime", "currentTimeMillis", "\"", "instanceof",
        "MIN_VALUE", "MAX_VALUE"};

    private static void face() {
        Class<?> it = NewOrBack.class;
        checks.isTrue("public final", Modifier.isPublic(it.getModifiers()) && Modifier.isFinal(it.getModifiers()));
        TreeSet<String> open = new TreeSet<>();
        TreeSet<String> hidden = new TreeSet<>();
        for (Method method : it.getDeclaredMethods()) {
            boolean isPublic = Modifier.isPublic(method.getModifiers());
            checks.isTrue(method.getName() + " public or private",
                    isPublic || Modifier.isPrivate(method.getModifiers()) || method.isSynthetic());
            if (isPublic) {
                open.add(method.getName() + " " + method.getParameterCount());
                Class<?> due = method.getName().equals("digest") ? long.class : int.class;
                checks.isTrue(method.getName() + " answers an int", method.getReturnType() == due);
                for (Class<?> type : method.getParameterTypes()) {
                    checks.isTrue(method.getName() + " takes ints", type == int.class);
                }
            } else {
                hidden.add(method.getName());
            }
        }
        checks.isTrue("the face is " + open, open.equals(new TreeSet<>(Arrays.asList(FACE))));
        for (String told : FACE) {
            checks.isTrue("no private " + told, !hidden.contains(told.split(" ")[0]));
        }
        for (Field field : it.getDeclaredFields()) {
            boolean isConstant = List.of("NONE", "BAD", "NOT", "FULL").contains(field.getName());
            checks.isTrue(field.getName(), isConstant == Modifier.isPublic(field.getModifiers())
                    && isConstant != Modifier.isPrivate(field.getModifiers()));
        }
        checks.due("constructors", it.getDeclaredConstructors().length, 1);
        checks.isTrue("at most twelve classes", it.getDeclaredClasses().length < 12);
        for (Class<?> inside : it.getDeclaredClasses()) {
            checks.isTrue(inside + " is static", Modifier.isStatic(inside.getModifiers()));
            fields(inside);
        }
        fields(it);
    }

    private static void fields(Class<?> of) {
        int own = 0;
        for (Field field : of.getDeclaredFields()) {
            if (Modifier.isStatic(field.getModifiers())) {
                checks.isTrue(field + " is final", Modifier.isFinal(field.getModifiers()));
            } else {
                own++;
            }
        }
        checks.isTrue(of + " has at most twenty fields", own <= 20);
        for (Method method : of.getDeclaredMethods()) {
            checks.isTrue(method + " takes at most seven", method.getParameterCount() <= 7);
        }
    }

    private static String withoutComments(String text) {
        return text.replaceAll("(?s)/\\*.*?\\*/", "").replaceAll("//[^\n]*", "");
    }

    private static void text() throws IOException {
        String text = withoutComments(Files.readString(Path.of("src/main/java/NewOrBack.java")));
        for (String word : NOT_ALLOWED) {
            String pattern = Character.isLetter(word.charAt(0)) && Character.isLetter(word.charAt(word.length() - 1))
                    ? "(?s).*\\b" + word + "\\b.*" : "(?s).*" + java.util.regex.Pattern.quote(word) + ".*";
            checks.isTrue("no " + word, !text.matches(pattern));
        }
        int[] starts = new int[3];
        String[] lines = text.split("\n");
        for (int i = 0; i < lines.length; i++) {
            String line = lines[i];
            checks.isTrue("import: " + line, !line.startsWith("import") || line.equals("import java.util.Arrays;"));
            boolean isMade = line.matches(".*\\bnew\\b.*");
            checks.isTrue("only constructors make objects: " + line, !isMade || line.contains("private final ")
                    || line.trim().equals("at = new Walk(wood);") || line.trim().equals("walks[walker] = new Walk(wood);"));
            checks.isTrue("a line not too long: " + line, line.length() <= 120);
            for (int depth = 1; depth <= 2; depth++) {
                String indent = " ".repeat(4 * depth);
                if (line.matches(indent + "[a-zA-Z].*\\{")) {
                    starts[depth] = line.contains(" class ") ? lines.length : i;
                }
                if (line.equals(indent + "}")) {
                    checks.isTrue("a method not too long: " + line, i - starts[depth] < 60);
                }
            }
        }
    }

    public static void main(String[] args) throws IOException {
        face();
        text();
        checks.end();
    }
}
