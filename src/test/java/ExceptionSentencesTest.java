import java.util.NoSuchElementException;
import java.util.function.Consumer;
import java.util.function.Supplier;

/**
 * The sentences that begin with "Throws", for every method: each index and number just inside and
 * just outside what is allowed, the least and the greatest int, the exception that is listed first,
 * and that a method that throws changes nothing.
 */
public final class ExceptionSentencesTest {
    private static final Class<?> INDEX = IndexOutOfBoundsException.class;
    private static final Class<?> ARGUMENT = IllegalArgumentException.class;
    private static final Class<?> STATE = IllegalStateException.class;
    private static final Class<?> ELEMENT = NoSuchElementException.class;

    /** Far outside of everything; 32 is where a shift begins anew. */
    private static final int[] FAR = {Integer.MIN_VALUE, Integer.MIN_VALUE + 1, -33, -32, 32, 33, 64, 1000, Integer.MAX_VALUE - 1, Integer.MAX_VALUE};

    private static final String[] FORESTS = {
        "vertices 1;", "vertices 2;", "vertices 2;edge 0 1;", "vertices 3;code 1;", "vertices 6;path 0 1 2;edge 3 4;",
        "vertices 9;path 8 7 6 5 4 3 2 1 0;", "vertices 10;", "vertices 10;star 9 0 1 2 3 4 5 6 7 8;", "vertices 10;path 0 1 2 3 4;star 2 5 6;edge 8 7;"
    };

    /** A call with one number. */
    private interface Asked {
        void with(TreeCodes x, int number);
    }

    public static void main(String[] args) {
        noVertices();
        noComponents();
        noProperties();
        noNumbers();
        firstListed();
        Check.end();
    }

    private static void noVertices() {
        noVertex("7: vertex", (x, v) -> x.vertex(v, 0));
        noVertex("7: vertex, orbit", (x, v) -> x.vertex(v, 7));
        noVertex("9: distance, a", (x, v) -> x.distance(v, 0));
        noVertex("9: distance, b", (x, v) -> x.distance(0, v));
        noVertex("9: distance, both", (x, v) -> x.distance(v, v));
        noVertex("10: onPath, a", (x, v) -> x.onPath(v, v, 0));
        noVertex("11: median, all", (x, v) -> x.median(v, v, v));
        noVertex("12: meanDistance", (x, v) -> x.meanDistance(v));
        noVertex("13: balance", (x, v) -> x.balance(v));
        noVertex("25: link, a", (x, v) -> x.link(v, 0));
        noVertex("25: link, b", (x, v) -> x.link(0, v));
        noVertex("25: link, both", (x, v) -> x.link(v, v));
        noVertex("26: cut, a", (x, v) -> x.cut(v, 0));
        noVertex("26: cut, b", (x, v) -> x.cut(0, v));
        noVertex("26: cut, both", (x, v) -> x.cut(v, v));
        noVertex("27: regraft, vertex", (x, v) -> x.regraft(v, 0, 0));
        noVertex("27: regraft, from", (x, v) -> x.regraft(0, v, 0));
        noVertex("27: regraft, to", (x, v) -> x.regraft(0, 0, v));
        noVertex("27: regraft, all", (x, v) -> x.regraft(v, v, v));
        noVertex("29: swap, a", (x, v) -> x.swap(v, 0));
        noVertex("29: swap, b", (x, v) -> x.swap(0, v));
        noVertex("29: swap, both", (x, v) -> x.swap(v, v));
        noVertex("30: setWeight", (x, v) -> x.setWeight(v, 1));
    }

    private static void noComponents() {
        noComponent("8: component", (x, c) -> x.component(c, 0));
        noComponent("8: component, leaves", (x, c) -> x.component(c, 6));
        noComponent("17: writeWord", (x, c) -> x.writeWord(c));
        noComponent("20: symmetries", (x, c) -> x.symmetries(c));
        noComponent("21: labellings", (x, c) -> x.labellings(c));
    }

    private static void noProperties() {
        range("7: vertex, what", 0, 7, ARGUMENT, (x, what) -> x.vertex(0, what));
        range("7: vertex, what, the last vertex", 0, 7, ARGUMENT, (x, what) -> x.vertex(5, what));
        range("8: component, what", 0, 6, ARGUMENT, (x, what) -> x.component(0, what));
        range("8: component, what, the last component", 0, 6, ARGUMENT, (x, what) -> x.component(2, what));
        range("36: account, what", 0, 9, ARGUMENT, (x, what) -> x.account(what));
        range("24: survey, what", 0, 2, ARGUMENT, (x, what) -> x.survey(3, what));
        range("19: outputByte, index", 0, 5, ELEMENT, (x, index) -> x.outputByte(index));
        Check.sentence("Promise 14: code, index", ExceptionSentencesTest::indexes);
        Check.sentence("Promises 14 to 16: the forest is no tree", ExceptionSentencesTest::noTree);
        Check.sentence("Promise 10: onPath, step", ExceptionSentencesTest::pathSteps);
        Check.sentence("Promise 10: onPath, b", () -> positions(ELEMENT, (x, v) -> x.onPath(0, v, 0)));
        Check.sentence("Promise 11: median, each place", ExceptionSentencesTest::medianPlaces);
    }

    private static void noNumbers() {
        range("22: withLeaves, n", 1, 10, ARGUMENT, (x, n) -> x.withLeaves(n, 2));
        range("22: withLeaves, leaves", 0, 10, ARGUMENT, (x, leaves) -> x.withLeaves(5, leaves));
        range("22: withLeaves, both", 1, 10, ARGUMENT, (x, n) -> x.withLeaves(n, n));
        range("23: classes, rooted", 1, 10, ARGUMENT, (x, n) -> x.classes(n, true));
        range("23: classes, free", 1, 10, ARGUMENT, (x, n) -> x.classes(n, false));
        range("24: survey, n, 0", 1, 6, ARGUMENT, (x, n) -> x.survey(n, 0));
        range("24: survey, n, 1", 1, 6, ARGUMENT, (x, n) -> x.survey(n, 1));
        range("24: survey, n, 2", 1, 6, ARGUMENT, (x, n) -> x.survey(n, 2));
        range("28: prune", 1, 9, ARGUMENT, (x, rounds) -> x.prune(rounds));
        range("30: setWeight, weight", 0, 99, ARGUMENT, (x, weight) -> x.setWeight(5, weight));
        range("31: fromRank", 0, 1295, ARGUMENT, (x, rank) -> x.fromRank(rank));
        range("33: keep", 0, 2, ARGUMENT, (x, snapshot) -> x.keep(snapshot));
        range("34: restore", 0, 2, ARGUMENT, (x, snapshot) -> x.restore(snapshot));
        Check.sentence("Promise 31: fromRank, for each number of vertices", ExceptionSentencesTest::ranksOfEach);
    }

    private static void firstListed() {
        first("7: vertex, no vertex ahead of no what", INDEX, (x, far) -> x.vertex(far, far));
        first("7: vertex, no vertex ahead of what 8", INDEX, (x, far) -> x.vertex(far, 8));
        first("8: component, no component ahead of no what", INDEX, (x, far) -> x.component(far, far));
        first("8: component, no component ahead of what 7", INDEX, (x, far) -> x.component(far, 7));
        first("10: onPath, no vertex a ahead of no step", INDEX, (x, far) -> x.onPath(far, 0, far));
        first("10: onPath, no vertex b ahead of no step", INDEX, (x, far) -> x.onPath(0, far, far));
        first("11: median, no vertex a ahead of two components", INDEX, (x, far) -> x.median(far, 0, 5));
        first("11: median, no vertex b ahead of two components", INDEX, (x, far) -> x.median(0, far, 5));
        first("11: median, no vertex c ahead of two components", INDEX, (x, far) -> x.median(0, 5, far));
        first("14: code, no tree ahead of no index", STATE, (x, far) -> x.code(far));
        first("30: setWeight, no vertex ahead of no weight", INDEX, (x, far) -> x.setWeight(far, far));
        first("30: setWeight, no vertex ahead of weight 100", INDEX, (x, far) -> x.setWeight(far, 100));
        first("25: link, no vertex ahead of each reason", INDEX, (x, far) -> x.link(far, far));
        first("26: cut, no vertex ahead of no edge", INDEX, (x, far) -> x.cut(5, far));
        first("27: regraft, no vertex ahead of reason 1", INDEX, (x, far) -> x.regraft(0, 5, far));
        first("27: regraft, no vertex ahead of reason 2", INDEX, (x, far) -> x.regraft(1, 2, far));
        first("24: survey, both", ARGUMENT, (x, far) -> x.survey(far, far));
        first("22: withLeaves, both", ARGUMENT, (x, far) -> x.withLeaves(far, far));
    }

    /** Every vertex of each forest is there; the ones before and behind are not, and nothing differs by them. */
    private static void noVertex(String name, Asked asked) {
        Check.sentence("Promise " + name + ": there is no such vertex", () -> positions(null, asked));
    }

    private static void positions(Class<?> allowed, Asked asked) {
        for (String text : FORESTS) {
            Supplier<TreeCodes> maker = () -> Texts.of(text);
            int size = maker.get().forest(0);
            for (int v = 0; v < size; v++) {
                answersOr(allowed, text + " with " + v, maker.get(), v, asked);
            }
            outside(-1, size, (edge) -> throwsBare(text, maker, INDEX, edge, asked));
        }
        outside(-1, 6, (edge) -> throwsUsed("a used object", INDEX, edge, asked));
    }

    private static void noComponent(String name, Asked asked) {
        Check.sentence("Promise " + name + ": there is no such component", () -> {
            for (String text : FORESTS) {
                Supplier<TreeCodes> maker = () -> Texts.of(text);
                int components = maker.get().forest(2);
                for (int c = 0; c < components; c++) {
                    answers(text + " with " + c, maker.get(), c, asked);
                }
                outside(-1, components, (edge) -> throwsBare(text, maker, INDEX, edge, asked));
            }
            outside(-1, 3, (edge) -> throwsUsed("a used object", INDEX, edge, asked));
        });
    }

    /** On used objects: all numbers from the least to the greatest are allowed, no other one is. */
    private static void range(String name, int least, int greatest, Class<?> due, Asked asked) {
        Check.sentence("Promise " + name + ": out of range", () -> {
            for (int number = least; number <= greatest; number += greatest > 100 && number > 2 && number < 1290 ? 117 : 1) {
                answers("with " + number, Used.forest(), number, asked);
            }
            outside(least - 1, greatest + 1, (edge) -> throwsUsed("a used object", due, edge, asked));
        });
    }

    private static void first(String name, Class<?> due, Asked asked) {
        Check.sentence("Promise " + name, () -> {
            for (int far : FAR) {
                throwsUsed("a used object", due, far, asked);
            }
            throwsUsed("a used object", due, -1, asked);
        });
    }

    /** The numbers just below and just above what is allowed, and all that are far. */
    private static void outside(int below, int above, Consumer<Integer> test) {
        test.accept(below);
        test.accept(above);
        test.accept(below - 1);
        test.accept(above + 1);
        for (int far : FAR) {
            if (far < below || far > above) {
                test.accept(far);
            }
        }
    }

    private static void throwsBare(String text, Supplier<TreeCodes> maker, Class<?> due, int number, Asked asked) {
        TreeCodes x = maker.get();
        String before = Sight.now(x);
        Check.raises(text + " with " + number, due, () -> asked.with(x, number));
        Check.same("all that can be seen behind " + text + " with " + number, Sight.now(x), before);
    }

    private static void throwsUsed(String call, Class<?> due, int number, Asked asked) {
        Refused.changesNothing(call + " with " + number, due, Used::forest, x -> asked.with(x, number));
    }

    private static void answers(String call, TreeCodes x, int number, Asked asked) {
        answersOr(null, call, x, number, asked);
    }

    /** It answers, or throws the one exception that may come for another reason. */
    private static void answersOr(Class<?> allowed, String call, TreeCodes x, int number, Asked asked) {
        Object thrown = "none";
        try {
            asked.with(x, number);
        } catch (RuntimeException e) {
            thrown = e.getClass() == allowed ? "none" : e;
        }
        Check.same(call + ": exception", thrown, "none");
    }

    private static void indexes() {
        for (int index = 0; index < 4; index++) {
            answers("code of a tree", Used.tree(), index, (x, i) -> x.code(i));
        }
        outside(-1, 4, (edge) -> Refused.changesNothing("code(" + edge + ")", ELEMENT, Used::tree, x -> x.code(edge)));
        for (int n = 1; n <= 10; n++) {
            String text = "vertices " + n + ";code" + " 0".repeat(Math.max(n - 2, 0)) + ";";
            int end = Math.max(n - 2, 0);
            for (int index = 0; index < end; index++) {
                answers(text, Texts.of(text), index, (x, i) -> x.code(i));
            }
            outside(-1, end, (edge) -> throwsBare(text, () -> Texts.of(text), ELEMENT, edge, (x, i) -> x.code(i)));
        }
    }

    private static void noTree() {
        Refused.changesNothing("code(0)", STATE, Used::forest, x -> x.code(0));
        Refused.changesNothing("rank()", STATE, Used::forest, x -> x.rank());
        Refused.changesNothing("sameDegrees()", STATE, Used::forest, x -> x.sameDegrees());
        for (int n = 2; n <= 10; n++) {
            TreeCodes x = Texts.of("vertices " + n + ";");
            Check.raises("code(0) of " + n, STATE, () -> x.code(0));
            Check.raises("rank() of " + n, STATE, () -> x.rank());
            Check.raises("sameDegrees() of " + n, STATE, () -> x.sameDegrees());
        }
    }

    private static void pathSteps() {
        for (int step = 0; step <= 5; step++) {
            int due = step;
            Check.same("onPath(0, 5, " + step + ")", Used.tree().onPath(0, 5, step), due);
        }
        outside(-1, 6, (edge) -> Refused.changesNothing("onPath(0, 5, " + edge + ")", ELEMENT, Used::tree, x -> x.onPath(0, 5, edge)));
        outside(-1, 1, (edge) -> Refused.changesNothing("onPath(4, 4, " + edge + ")", ELEMENT, Used::tree, x -> x.onPath(4, 4, edge)));
        for (int step = -1; step <= 2; step++) {
            int tried = step;
            Refused.changesNothing("onPath(0, 3, " + step + ")", ELEMENT, Used::forest, x -> x.onPath(0, 3, tried));
        }
    }

    private static void medianPlaces() {
        positions(ELEMENT, (x, v) -> x.median(v, 0, 0));
        positions(ELEMENT, (x, v) -> x.median(0, v, 0));
        positions(ELEMENT, (x, v) -> x.median(0, 0, v));
        Refused.changesNothing("median(0, 1, 3)", ELEMENT, Used::forest, x -> x.median(0, 1, 3));
        Refused.changesNothing("median(5, 0, 0)", ELEMENT, Used::forest, x -> x.median(5, 0, 0));
        Refused.changesNothing("median(0, 5, 0)", ELEMENT, Used::forest, x -> x.median(0, 5, 0));
    }

    private static void ranksOfEach() {
        int[] greatest = {0, 0, 2, 15, 124, 1295, 16806, 262143, 4782968, 99999999};
        for (int n = 1; n <= 10; n++) {
            String text = "vertices " + n + ";weight 0 3;";
            answers(text, Texts.of(text), 0, (x, rank) -> x.fromRank(rank));
            answers(text, Texts.of(text), greatest[n - 1], (x, rank) -> x.fromRank(rank));
            for (int rank : new int[] {Integer.MIN_VALUE, -1, greatest[n - 1] + 1, Integer.MAX_VALUE}) {
                throwsBare(text, () -> Texts.of(text), ARGUMENT, rank, (x, r) -> x.fromRank(r));
            }
        }
    }
}
