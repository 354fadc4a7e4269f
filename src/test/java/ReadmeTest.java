import java.io.IOException;
import java.lang.reflect.InvocationTargetException;
import java.lang.reflect.Method;
import java.lang.reflect.Modifier;
import java.nio.file.Files;
import java.nio.file.Path;
import java.util.ArrayList;
import java.util.List;
import java.util.Set;
import java.util.TreeSet;
import java.util.regex.Matcher;
import java.util.regex.Pattern;
import java.util.stream.Stream;

/** README.md: its rows answer as it says, show every call, and it tells how to run the tests, each by name. */
public final class ReadmeTest extends Answers {
    private static final Pattern ROW = Pattern.compile("x\\.(\\w+)\\(([^;]*)\\);\\s*// (-?\\d+|[A-Z]+)(?![\\w]).*");
    private static final Pattern LAID = Pattern.compile("lay\\(x, \"([^\"]*)\"\\);");
    private static final String MADE = "NoticeTests x = new NoticeTests();";

    public static void main(String[] args) throws IOException, ReflectiveOperationException {
        about("README.md");
        String page = Files.readString(Path.of(args[0], "README.md"));
        Set<String> shown = runRows(rowsOf(page));
        for (Method method : NoticeTests.class.getDeclaredMethods()) {
            if (Modifier.isPublic(method.getModifiers())) {
                due("rows that show " + method.getName(), shown.contains(method.getName()) ? 1 : 0, 1);
            }
        }
        due("how to run the tests", page.contains("\n.ci/run\n") ? 1 : 0, 1);
        for (String test : testsIn(Path.of(args[0], "src", "test", "java"))) {
            due("tells of " + test, page.contains("`" + test + "`") ? 1 : 0, 1);
        }
        end();
    }

    /** The lines between MADE and the end of its block. */
    private static List<String> rowsOf(String page) {
        List<String> rows = new ArrayList<>();
        boolean inside = false;
        for (String line : page.split("\n")) {
            inside = line.equals(MADE) || (inside && !line.startsWith("```"));
            if (inside) {
                rows.add(line.trim());
            }
        }
        due("a row that makes an object", rows.isEmpty() ? 0 : 1, 1);
        return rows;
    }

    private static Set<String> runRows(List<String> rows) throws ReflectiveOperationException {
        Set<String> shown = new TreeSet<>();
        NoticeTests x = new NoticeTests();
        for (String row : rows) {
            Matcher laid = LAID.matcher(row);
            Matcher call = ROW.matcher(row);
            if (laid.matches()) {
                sayAll(x, laid.group(1));
            } else if (call.matches()) {
                shown.add(call.group(1));
                due(row, answer(x, call.group(1), call.group(2)), number(call.group(3)));
            } else {
                boolean plain = row.equals(MADE) || row.isEmpty() || row.startsWith("//");
                due("a row that can be run: " + row, plain ? 1 : 0, 1);
            }
        }
        return shown;
    }

    /** As README.md's own lay, which does not wipe. */
    private static void sayAll(NoticeTests x, String signs) {
        for (char sign : signs.toCharArray()) {
            x.say(sign);
        }
    }

    private static int answer(NoticeTests x, String name, String written)
            throws IllegalAccessException, InvocationTargetException {
        String[] given = written.isEmpty() ? new String[0] : written.split(", ");
        Object[] numbers = new Object[given.length];
        for (int i = 0; i < given.length; i++) {
            numbers[i] = given[i].startsWith("'") ? (int) given[i].charAt(1) : Integer.parseInt(given[i]);
        }
        for (Method method : NoticeTests.class.getDeclaredMethods()) {
            if (method.getName().equals(name) && Modifier.isPublic(method.getModifiers())) {
                return (Integer) method.invoke(x, numbers);
            }
        }
        throw new IllegalArgumentException("there is no call " + name);
    }

    private static int number(String answer) throws ReflectiveOperationException {
        boolean named = Character.isUpperCase(answer.charAt(0));
        return named ? NoticeTests.class.getField(answer).getInt(null) : Integer.parseInt(answer);
    }

    private static List<String> testsIn(Path folder) throws IOException {
        List<String> names = new ArrayList<>();
        try (Stream<Path> files = Files.list(folder)) {
            files.map(file -> file.getFileName().toString()).filter(name -> name.endsWith("Test.java"))
                .sorted().forEach(name -> names.add(name.substring(0, name.length() - ".java".length())));
        }
        due("there are tests", names.isEmpty() ? 0 : 1, 1);
        return names;
    }
}
