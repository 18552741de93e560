import java.util.ArrayList;
import java.util.List;
import java.util.regex.Matcher;
import java.util.regex.Pattern;

/** Reads a text by cutting it into all its tokens first and walking along them. */
final class ModelText {
    private static final Pattern TOKEN = Pattern.compile("[a-z]+|[0-9]+|[^ \\n]", Pattern.DOTALL);

    Model.State state;
    int error = 0;

    private final List<String> tokens = new ArrayList<>();
    private final List<Integer> offsets = new ArrayList<>();
    private int at = 0;

    /** Ends the reading at the first error. */
    private static final class Stop extends RuntimeException {
        private static final long serialVersionUID = 1;
    }

    ModelText(String text) {
        Matcher matcher = TOKEN.matcher(text);
        while (matcher.find()) {
            tokens.add(matcher.group());
            offsets.add(matcher.start());
        }
        tokens.add("");
        offsets.add(text.length());
        try {
            read();
        } catch (Stop stop) {
            state = null;
        }
    }

    private Stop wrong(int kind) {
        error = 8 * offsets.get(at) + kind;
        return new Stop();
    }

    private void expect(String token) {
        if (!tokens.get(at).equals(token)) {
            throw wrong(1);
        }
        at++;
    }

    private boolean atNumber() {
        return tokens.get(at).matches("[0-9]{1,2}");
    }

    private int number(int least, int greatest) {
        if (!atNumber()) {
            throw wrong(1);
        }
        int number = Integer.parseInt(tokens.get(at));
        if (number < least || number > greatest) {
            throw wrong(2);
        }
        at++;
        return number;
    }

    private int vertex() {
        return number(0, state.n - 1);
    }

    private void read() {
        expect("vertices");
        state = new Model.State(number(1, 10));
        expect(";");
        while (!tokens.get(at).isEmpty()) {
            statement(tokens.get(at));
            expect(";");
        }
    }

    private void statement(String word) {
        if (word.equals("code") && state.edges() > 0) {
            throw wrong(4);
        }
        if (!word.matches("edge|path|star|code|weight")) {
            throw wrong(1);
        }
        at++;
        if (word.equals("code")) {
            code();
        } else if (word.equals("weight")) {
            int vertex = vertex();
            state.weight[vertex] = number(0, 99);
        } else {
            edges(word);
        }
    }

    private void edges(String word) {
        int first = vertex();
        boolean more = true;
        while (more) {
            int second = vertex();
            if (state.partOf(first, -1).contains(second)) {
                at--;
                throw wrong(3);
            }
            state.set(first, second, true);
            first = word.equals("path") ? second : first;
            more = !word.equals("edge") && atNumber();
        }
    }

    private void code() {
        List<Integer> code = new ArrayList<>();
        while (code.size() < state.n - 2) {
            code.add(vertex());
        }
        state.plant(code);
    }
}
