import java.io.IOException;
import java.lang.reflect.Constructor;
import java.lang.reflect.Executable;
import java.lang.reflect.Field;
import java.lang.reflect.Member;
import java.lang.reflect.Method;
import java.lang.reflect.Modifier;
import java.nio.file.Files;
import java.nio.file.Path;
import java.util.ArrayList;
import java.util.Arrays;
import java.util.List;
import java.util.Set;
import java.util.TreeSet;
import java.util.regex.Matcher;
import java.util.regex.Pattern;

/** The face is the document's and no more; the file keeps to what ../shared/LANGUAGE.md says of words and sizes. */
public final class FaceTest {
    private static final String I = "IndexOutOfBoundsException";
    private static final String A = "IllegalArgumentException";
    private static final String S = "IllegalStateException";
    private static final String E = "NoSuchElementException";

    private static final String[] METHODS = {
        "int append(int,int,int,int,int)", "boolean truncate(int)", "int bufferLength()", "int load()",
        "int forest(int)", "int vertex(int,int) " + I + " " + A, "int component(int,int) " + I + " " + A,
        "int distance(int,int) " + I, "int onPath(int,int,int) " + I + " " + E,
        "int median(int,int,int) " + I + " " + E, "double meanDistance(int) " + I, "float balance(int) " + I,
        "int code(int) " + S + " " + E, "int rank() " + S, "int sameDegrees() " + S, "int writeWord(int) " + I,
        "int writeText()", "int outputByte(int) " + E, "int symmetries(int) " + I, "int labellings(int) " + I,
        "int withLeaves(int,int) " + A, "int classes(int,boolean) " + A, "int survey(int,int) " + A,
        "int link(int,int) " + I, "boolean cut(int,int) " + I, "int regraft(int,int,int) " + I, "int prune(int) " + A,
        "int swap(int,int) " + I, "int setWeight(int,int) " + I + " " + A, "int fromRank(int) " + A, "int nextTree()",
        "boolean keep(int) " + A, "boolean restore(int) " + A, "int undo()", "int account(int) " + A
    };

    /** What ../shared/LANGUAGE.md rules out by a word that can be seen; what it leaves open is not here. */
    private static final String[] FORBIDDEN = {
        "^(?!\\s*(case\\b|default\\b)).*->", "::", "\\bfinally\\b", "\\bsynchronized\\b", "\\bassert\\b",
        "\\bcatch \\((\\w+ \\| )*(Throwable|Error|Exception|\\w*(Array|NullPointer|ClassCast|NegativeArray)\\w*)\\b",
        "\\bMath\\.\\w*Exact\\b", "\\bSystem\\.(?!arraycopy\\b)", "\\bThread\\b", "\\bnew Object\\b", "\\bstatic \\{",
        "\\bboolean equals\\(", "\\bint hashCode\\(", "\\bString toString\\(", "\\bvolatile\\b", "\\bnative\\b",
        "\\bMath\\.random\\b", "\\bextends \\w*(Exception|Error|Throwable)\\b", "\\bpackage\\b"
    };

    /** The document says "some sixty lines", "some twelve classes", "some twenty fields". */
    private static final int SOME_LINES = 66;
    private static final int SOME_CLASSES = 13;
    private static final int SOME_FIELDS = 22;

    public static void main(String[] args) throws IOException {
        members();
        methods();
        nested();
        if (args.length > 0) {
            source(Files.readAllLines(Path.of(args[0])));
        }
        Check.end();
    }

    private static boolean hidden(Member member) {
        return Modifier.isPrivate(member.getModifiers());
    }

    private static void members() throws IOException {
        Check.same("modifiers", TreeCodes.class.getModifiers(), Modifier.PUBLIC | Modifier.FINAL);
        for (Field field : TreeCodes.class.getDeclaredFields()) {
            boolean constant = field.getName().equals("NONE");
            Check.same("public: " + field, Modifier.isPublic(field.getModifiers()), constant);
            Check.same("hidden: " + field, hidden(field), !constant);
            if (Modifier.isStatic(field.getModifiers())) {
                Check.holds("final: " + field, Modifier.isFinal(field.getModifiers()));
            }
        }
        Constructor<?>[] constructors = TreeCodes.class.getDeclaredConstructors();
        Check.same("constructors", constructors.length, 1);
        Check.same("constructor", Modifier.isPublic(constructors[0].getModifiers()), true);
        Check.same("constructor's arguments", constructors[0].getParameterCount(), 0);
    }

    private static void methods() {
        Set<String> due = new TreeSet<>(Arrays.asList(METHODS));
        Set<String> face = new TreeSet<>();
        Set<String> names = new TreeSet<>();
        for (Method method : TreeCodes.class.getDeclaredMethods()) {
            if (!hidden(method)) {
                Check.same("modifiers of " + method, method.getModifiers(), Modifier.PUBLIC);
                face.add(signature(method));
                names.add(method.getName());
            }
        }
        Check.same("methods", face, due);
        for (Class<?> inner : TreeCodes.class.getDeclaredClasses()) {
            for (Method method : inner.getDeclaredMethods()) {
                Check.fails("a name of the face: " + method, names.contains(method.getName()));
            }
        }
        for (Method method : TreeCodes.class.getDeclaredMethods()) {
            Check.fails("a name of the face: " + method, hidden(method) && names.contains(method.getName()));
            arguments(method);
        }
    }

    private static String signature(Method method) {
        List<String> types = new ArrayList<>();
        for (Class<?> type : method.getParameterTypes()) {
            types.add(type.getSimpleName());
        }
        StringBuilder text = new StringBuilder(method.getReturnType().getSimpleName());
        text.append(' ').append(method.getName()).append('(').append(String.join(",", types)).append(')');
        for (Class<?> thrown : method.getExceptionTypes()) {
            text.append(' ').append(thrown.getSimpleName());
        }
        return text.toString();
    }

    private static void arguments(Executable executable) {
        Check.holds("at most seven parameters: " + executable, executable.getParameterCount() <= 7);
    }

    private static void nested() {
        Class<?>[] all = TreeCodes.class.getDeclaredClasses();
        Check.holds("some twelve classes", all.length + 1 <= SOME_CLASSES);
        for (Class<?> inner : all) {
            Check.holds("static: " + inner, Modifier.isStatic(inner.getModifiers()));
            Check.fails("public: " + inner, Modifier.isPublic(inner.getModifiers()));
            long fields = Arrays.stream(inner.getDeclaredFields()).filter(f -> !Modifier.isStatic(f.getModifiers())).count();
            Check.holds("some twenty fields: " + inner, fields <= SOME_FIELDS);
            for (Method method : inner.getDeclaredMethods()) {
                arguments(method);
            }
        }
    }

    private static void source(List<String> lines) {
        Pattern start = Pattern.compile("^(    |        )(?:[\\w\\[\\]]+ )+\\w+\\(.*\\{$");
        int from = -1;
        String indent = "";
        for (int i = 0; i < lines.size(); i++) {
            String line = lines.get(i).replaceAll("//.*|/?\\*.*", "").replaceAll("\"[^\"]*\"", "\"\"");
            for (String forbidden : FORBIDDEN) {
                Check.fails("line " + (i + 1) + " has " + forbidden, Pattern.compile(forbidden).matcher(line).find());
            }
            Matcher matcher = start.matcher(lines.get(i));
            if (matcher.find()) {
                from = i;
                indent = matcher.group(1);
            } else if (from >= 0 && lines.get(i).equals(indent + "}")) {
                Check.holds("some sixty lines up to line " + (i + 1), i - from < SOME_LINES);
                from = -1;
            }
            Check.holds("only signs 1 to 127 on line " + (i + 1), lines.get(i).chars().allMatch(c -> c < 128));
        }
        String allowed = "import java\\.util\\.(Arrays|ArrayList|List|Iterator|NoSuchElementException);";
        Check.holds("imports", lines.stream().filter(line -> line.startsWith("import")).allMatch(line -> line.matches(allowed)));
    }
}
