import java.io.File;
import java.io.IOException;
import java.lang.reflect.InvocationTargetException;
import java.lang.reflect.Method;
import java.lang.reflect.Modifier;
import java.nio.charset.StandardCharsets;
import java.nio.file.Files;
import java.nio.file.Path;
import java.util.List;
import java.util.Set;
import java.util.TreeSet;
import java.util.regex.Matcher;
import java.util.regex.Pattern;

/** Makes the calls that README.md shows and looks whether each answer stands behind its call. */
public final class ReadmeTest {
    private static final String MADE = "    TreeCodes x = new TreeCodes();";
    private static final Pattern CALL = Pattern.compile("    x\\.(\\w+)\\((.*?)\\); *// ([\\w.-]+)(.*)");
    private static final Pattern QUOTED = Pattern.compile("^: \"([^\"]*)\"");

    private final Set<String> shown = new TreeSet<>();
    private TreeCodes x;

    public static void main(String[] args) throws IOException, ReflectiveOperationException {
        List<String> lines = Files.readAllLines(Path.of("README.md"));
        ReadmeTest test = new ReadmeTest();
        for (String line : lines) {
            test.read(line);
        }
        test.everyMethod();
        everyTest(String.join("\n", lines));
        Check.end();
    }

    private void read(String line) throws ReflectiveOperationException {
        if (line.equals(MADE)) {
            x = new TreeCodes();
        } else if (line.startsWith("    x.")) {
            Matcher call = CALL.matcher(line);
            Check.holds("an answer stands behind" + line, call.matches());
            make(call, line.trim());
        }
    }

    private void make(Matcher call, String line) throws ReflectiveOperationException {
        Object[] arguments = arguments(call.group(2));
        Object got = outcome(method(call.group(1)), arguments);
        Check.same(line, normal(String.valueOf(got)), normal(call.group(3)));
        Matcher quoted = QUOTED.matcher(call.group(4));
        if (quoted.find()) {
            String text = call.group(1).equals("append") ? appended(arguments) : Texts.output(x, (Integer) got);
            Check.same("text of " + line, text, quoted.group(1));
        }
        shown.add(call.group(1));
    }

    private static Method method(String name) throws NoSuchMethodException {
        for (Method method : TreeCodes.class.getMethods()) {
            if (method.getName().equals(name) && method.getDeclaringClass() == TreeCodes.class) {
                return method;
            }
        }
        throw new NoSuchMethodException(name);
    }

    private Object outcome(Method method, Object[] arguments) throws IllegalAccessException {
        try {
            return method.invoke(x, arguments);
        } catch (InvocationTargetException e) {
            return e.getCause().getClass().getSimpleName();
        }
    }

    private static Object[] arguments(String text) {
        String[] parts = text.isEmpty() ? new String[0] : text.split(", ");
        Object[] values = new Object[parts.length];
        for (int i = 0; i < parts.length; i++) {
            boolean truth = parts[i].equals("true") || parts[i].equals("false");
            values[i] = truth ? (Object) Boolean.valueOf(parts[i]) : (Object) Integer.decode(parts[i]);
        }
        return values;
    }

    /** Without the zeros behind the text. */
    private static String appended(Object[] fours) {
        byte[] bytes = new byte[20];
        for (int i = 0; i < bytes.length; i++) {
            bytes[i] = (byte) ((Integer) fours[i / 4] >>> 24 - 8 * (i % 4));
        }
        return new String(bytes, StandardCharsets.ISO_8859_1).replace("\0", "");
    }

    private static String normal(String answer) {
        return answer.replaceAll("\\.0$", "");
    }

    private void everyMethod() {
        for (Method method : TreeCodes.class.getDeclaredMethods()) {
            if (Modifier.isPublic(method.getModifiers())) {
                Check.holds(method.getName() + " is shown", shown.contains(method.getName()));
            }
        }
    }

    private static void everyTest(String readme) {
        for (String file : new File("src/test/java").list()) {
            if (file.endsWith("Test.java")) {
                String name = file.replace(".java", "");
                Check.holds(name + " is told", readme.contains("`" + name + "`"));
            }
        }
    }
}
