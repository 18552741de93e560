import java.util.function.Supplier;

/** Long runs of calls, all through the face, each answer beside that of the model. */
public final class RunsTest {
    private static final int RUNS = 2800;

    /** With one more load and a text of 213 bytes at last, a run stays within the 512 calls of an object. */
    private static final int CALLS = 260;
    private static final int KINDS = 34;

    private final Luck luck;
    private final TreeCodes x = new TreeCodes();
    private final Model model = new Model();
    private String call = "";

    private RunsTest(int seed) {
        luck = new Luck(seed);
    }

    public static void main(String[] args) {
        for (int seed = 1; seed <= RUNS; seed++) {
            new RunsTest(seed).run(seed);
        }
        Check.end();
    }

    private void run(int seed) {
        int calls = 0;
        while (calls < CALLS) {
            calls += luck.once(25) ? loadSome() : single(luck.below(KINDS));
            // the whole state, each few calls
            if (luck.once(4)) {
                same("writeText", () -> x.writeText(), () -> model.writeText());
                calls++;
            }
        }
        call = "run " + seed + " at last";
        Check.same(call, Texts.text(x), model.state().text());
    }

    private static String outcome(Supplier<Object> ask) {
        try {
            return String.valueOf(ask.get());
        } catch (RuntimeException e) {
            return "throws." + e.getClass().getName();
        }
    }

    private void same(String name, Supplier<Object> got, Supplier<Object> due) {
        call = name + " on " + model.state().text();
        String expected = outcome(due);
        Check.same(call, outcome(got), expected);
    }

    private int loadSome() {
        String text = new SomeText(luck).text();
        Texts.feed(x, text);
        for (char sign : text.toCharArray()) {
            model.append(sign << 24, 0, 0, 0, 0);
            model.truncate(model.bufferLength() - 19);
        }
        same("load " + text, () -> x.load(), () -> model.load());
        return 4 + text.length() / 20;
    }

    private int vertex() {
        return luck.once(40) ? luck.below(3) * 10 - 10 : luck.below(model.state().n);
    }

    private int near(int bound) {
        return luck.below(bound + 2) - 1;
    }

    private int single(int kind) {
        if (kind < 17) {
            ask(kind);
        } else {
            change(kind);
        }
        return 1;
    }

    private void ask(int kind) {
        int a = vertex();
        int b = vertex();
        int c = vertex();
        int what = near(9);
        int part = luck.once(10) ? near(11) : luck.below(model.forest(2));
        switch (kind) {
            case 0: same("forest " + what, () -> x.forest(what), () -> model.forest(what)); break;
            case 1: same("vertex " + a + " " + what, () -> x.vertex(a, what), () -> model.vertex(a, what)); break;
            case 2: same("component " + part + " " + what, () -> x.component(part, what), () -> model.component(part, what)); break;
            case 3: same("distance " + a + " " + b, () -> x.distance(a, b), () -> model.distance(a, b)); break;
            case 4: same("onPath " + a + " " + b + " " + what, () -> x.onPath(a, b, what), () -> model.onPath(a, b, what)); break;
            case 5: same("median " + a + " " + b + " " + c, () -> x.median(a, b, c), () -> model.median(a, b, c)); break;
            case 6: same("meanDistance " + a, () -> x.meanDistance(a), () -> model.meanDistance(a)); break;
            case 7: same("balance " + a, () -> x.balance(a), () -> model.balance(a)); break;
            case 8: same("code " + what, () -> x.code(what), () -> model.code(what)); break;
            case 9: same("rank", () -> x.rank(), () -> model.rank()); break;
            case 10: same("sameDegrees", () -> x.sameDegrees(), () -> model.sameDegrees()); break;
            case 11: same("writeWord " + part, () -> x.writeWord(part), () -> model.writeWord(part)); break;
            case 12: same("outputByte " + what, () -> x.outputByte(3 * what), () -> model.outputByte(3 * what)); break;
            case 13: same("symmetries " + part, () -> x.symmetries(part), () -> model.symmetries(part)); break;
            case 14: same("labellings " + part, () -> x.labellings(part), () -> model.labellings(part)); break;
            case 15: same("account " + what, () -> x.account(what), () -> model.account(what)); break;
            default: same("bufferLength", () -> x.bufferLength(), () -> model.bufferLength()); break;
        }
    }

    private void change(int kind) {
        int a = vertex();
        int b = vertex();
        int c = vertex();
        int snapshot = near(3);
        int from = model.vertex(0, 0) > 0 && luck.once(2) ? someNeighbor(a, b) : b;
        switch (kind) {
            case 17: case 18: case 19: case 20:
                same("link " + a + " " + b, () -> x.link(a, b), () -> model.link(a, b)); break;
            case 21: same("cut " + a + " " + from, () -> x.cut(a, from), () -> model.cut(a, from)); break;
            case 22: case 23:
                same("regraft " + a + " " + from + " " + c, () -> x.regraft(a, from, c), () -> model.regraft(a, from, c)); break;
            case 24: {
                int rounds = luck.once(3) ? near(10) : 1;
                same("prune " + rounds, () -> x.prune(rounds), () -> model.prune(rounds)); break;
            }
            case 25: case 26: same("swap " + a + " " + b, () -> x.swap(a, b), () -> model.swap(a, b)); break;
            case 27: {
                int weight = near(100);
                same("setWeight " + a + " " + weight, () -> x.setWeight(a, weight), () -> model.setWeight(a, weight)); break;
            }
            case 28: {
                int rank = luck.once(8) ? Model.trees(model.state().n) - luck.below(3) : luck.below(Model.trees(model.state().n));
                same("fromRank " + rank, () -> x.fromRank(rank), () -> model.fromRank(rank)); break;
            }
            case 29: same("nextTree", () -> x.nextTree(), () -> model.nextTree()); break;
            case 30: same("keep " + snapshot, () -> x.keep(snapshot), () -> model.keep(snapshot)); break;
            case 31: same("restore " + snapshot, () -> x.restore(snapshot), () -> model.restore(snapshot)); break;
            default: same("undo", () -> x.undo(), () -> model.undo()); break;
        }
    }

    private int someNeighbor(int a, int otherwise) {
        if (a < 0 || a >= model.state().n || model.state().neighbors(a).isEmpty()) {
            return otherwise;
        }
        return model.state().neighbors(a).get(luck.below(model.state().neighbors(a).size()));
    }
}
