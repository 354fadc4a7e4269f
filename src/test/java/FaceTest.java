import java.io.IOException;
import java.lang.reflect.Field;
import java.lang.reflect.Method;
import java.lang.reflect.Modifier;
import java.nio.file.Files;
import java.nio.file.Path;
import java.util.Arrays;
import java.util.HashSet;
import java.util.Set;
import java.util.TreeSet;
import java.util.regex.Matcher;
import java.util.regex.Pattern;

/** The public face of the document, and what of LANGUAGE.md the source itself can show. */
public final class FaceTest {
    private static final Set<String> METHODS = new TreeSet<>(Arrays.asList(
        "say(1)", "wipe(0)", "fault(0)", "read(1)", "node(3)", "result(2)", "runs(2)", "change(2)", "by(2)",
        "test(2)", "drop(1)", "of(2)", "many(1)", "score(1)", "fewest(1)", "soon(1)", "wished(1)",
        "blame(2)", "rank(1)", "mend(1)", "parts(1)", "less(2)", "told(1)"));
    private static final String[] CONSTANTS = {"UNKNOWN", "OUTSIDE", "STATE", "FULL", "NO", "NONE"};
    private static final String FORBIDDEN = "\\b(throw|throws|try|catch|finally|synchronized|assert|import|protected|"
        + "package|new Object|hashCode|toString|equals|Exact|Random|Thread|nanoTime|currentTimeMillis)\\b|->|::";

    private static int wrong = 0;

    public static void main(String[] args) throws IOException, IllegalAccessException {
        lookAtFace();
        lookAtConstants();
        lookInside();
        Path source = Path.of(args[0], "src", "main", "java", "NoticeTests.java");
        lookAtSource(Files.readString(source));
        System.out.println(wrong + " faults in the face and the source");
        if (wrong > 0) {
            System.exit(1);
        }
    }

    private static void must(boolean holds, String what) {
        if (!holds) {
            wrong++;
            System.out.println(what);
        }
    }

    private static void lookAtFace() {
        Class<?> face = NoticeTests.class;
        must(face.getModifiers() == (Modifier.PUBLIC | Modifier.FINAL), "the class is public and final");
        must(face.getDeclaredConstructors().length == 1, "one constructor");
        must(face.getConstructors().length == 1 && face.getConstructors()[0].getParameterCount() == 0, "a public one");
        Set<String> found = new TreeSet<>();
        for (Method method : face.getDeclaredMethods()) {
            if (method.isSynthetic() || Modifier.isPrivate(method.getModifiers())) {
                continue;
            }
            must(method.getModifiers() == Modifier.PUBLIC, method + " is public and no more");
            must(method.getReturnType() == int.class, method + " answers an int");
            for (Class<?> parameter : method.getParameterTypes()) {
                must(parameter == int.class, method + " takes ints");
            }
            found.add(method.getName() + "(" + method.getParameterCount() + ")");
        }
        must(found.equals(METHODS), "the methods are " + found);
    }

    private static void lookAtConstants() throws IllegalAccessException {
        for (int i = 0; i < CONSTANTS.length; i++) {
            boolean seen = false;
            for (Field field : NoticeTests.class.getFields()) {
                if (field.getName().equals(CONSTANTS[i])) {
                    seen = true;
                    must(field.getType() == int.class && field.getInt(null) == -1 - i, CONSTANTS[i] + " is " + (-1 - i));
                }
            }
            must(seen, CONSTANTS[i] + " is there");
        }
        for (Field field : NoticeTests.class.getDeclaredFields()) {
            boolean open = !Modifier.isPrivate(field.getModifiers());
            must(!open || Arrays.asList(CONSTANTS).contains(field.getName()), field + " is no part of the face");
        }
    }

    private static void lookInside() {
        Set<String> names = new HashSet<>();
        for (String method : METHODS) {
            names.add(method.substring(0, method.indexOf('(')));
        }
        Class<?>[] inside = NoticeTests.class.getDeclaredClasses();
        must(inside.length <= 12, "at most twelve classes");
        for (Class<?> one : inside) {
            must(Modifier.isStatic(one.getModifiers()), one + " is static");
            must(!Modifier.isPublic(one.getModifiers()) && !Modifier.isProtected(one.getModifiers()), one + " is not open");
            int fields = 0;
            for (Field field : one.getDeclaredFields()) {
                boolean isStatic = Modifier.isStatic(field.getModifiers());
                must(!isStatic || Modifier.isFinal(field.getModifiers()), field + " is final, as it is static");
                fields += isStatic ? 0 : 1;
            }
            must(fields <= 20, one + " has at most twenty fields");
            for (Method method : one.getDeclaredMethods()) {
                must(!names.contains(method.getName()), method + " does not bear the name of a public one");
                must(method.getParameterCount() <= 7, method + " takes at most seven parameters");
            }
        }
        for (Method method : NoticeTests.class.getDeclaredMethods()) {
            boolean hidden = Modifier.isPrivate(method.getModifiers());
            must(!hidden || !names.contains(method.getName()), method + " does not bear the name of a public one");
        }
    }

    private static void lookAtSource(String source) {
        String code = source.replaceAll("(?s)/\\*.*?\\*/", "").replaceAll("//[^\n]*", "").replaceAll("\"[^\"]*\"", "\"\"");
        Matcher matcher = Pattern.compile(FORBIDDEN).matcher(code);
        while (matcher.find()) {
            must(false, "the source has " + matcher.group());
        }
        for (char sign : source.toCharArray()) {
            must(sign < 128, "the source has the sign " + (int) sign);
        }
        Matcher made = Pattern.compile("\\bnew\\s+(\\w+)").matcher(code);
        Set<String> allowed = new HashSet<>(Arrays.asList("int", "long"));
        for (Class<?> one : NoticeTests.class.getDeclaredClasses()) {
            allowed.add(one.getSimpleName());
        }
        while (made.find()) {
            must(allowed.contains(made.group(1)), "the source makes a " + made.group(1));
        }
    }
}
