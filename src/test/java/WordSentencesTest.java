import java.util.NoSuchElementException;

/** The sentences of "Words" and of promises 17 to 21, one after the other. */
public final class WordSentencesTest {
    private static final Class<?> INDEX = IndexOutOfBoundsException.class;
    private static final Class<?> ELEMENT = NoSuchElementException.class;

    private static final String LONE = "vertices 10;";
    private static final String PATH = "vertices 10;path 0 1 2 3 4 5 6 7 8 9;";
    private static final String STAR = "vertices 10;star 9 0 1 2 3 4 5 6 7 8;";
    private static final String TWO_STARS = "vertices 10;star 0 1 2 3 4 9;star 9 5 6 7 8;";
    private static final String MIXED = "vertices 10;path 0 1 2 3 4;star 2 5 6;edge 8 7;weight 0 20;weight 9 0;";

    public static void main(String[] args) {
        words();
        texts();
        symmetries();
        Check.end();
    }

    private static void words() {
        Check.sentence("Words: \"()\" of one vertex", WordSentencesTest::wordOfOne);
        Check.sentence("Words: the words of the children in ascending order", WordSentencesTest::ascending);
        Check.sentence("Words: from its centroid", WordSentencesTest::fromCentroid);
        Check.sentence("Words: of two centroids the lesser", WordSentencesTest::twoCentroids);
        Check.sentence("Words: alike if their words are the same", WordSentencesTest::alike);
        Check.sentence("Words: weights and numbers do not matter", WordSentencesTest::whateverTheNumbers);
        Check.sentence("Promise 17: writes the word, returns the length of the output", WordSentencesTest::writesWord);
        Check.sentence("Promise 17: replacing what it contained", WordSentencesTest::wordReplaces);
        Check.sentence("Promise 17: no such component, and the output stays", WordSentencesTest::noWord);
    }

    private static void texts() {
        Check.sentence("Promise 18: the text", WordSentencesTest::writesText);
        Check.sentence("Promise 18: edges by the lower vertex, then by the higher one", WordSentencesTest::edgesInOrder);
        Check.sentence("Promise 18: weights that are not 1, in ascending order", WordSentencesTest::weightsInOrder);
        Check.sentence("Promise 18: replacing what it contained", WordSentencesTest::textReplaces);
        Check.sentence("Promise 18: loading it gives the same forest", WordSentencesTest::loadsAgain);
        Check.sentence("Promise 18: the longest text", WordSentencesTest::longest);
        Check.sentence("Promise 19: the byte at that index", WordSentencesTest::bytes);
        Check.sentence("Promise 19: there is no such byte", WordSentencesTest::noByte);
        Check.sentence("Promises 17 to 21: only the output changes", WordSentencesTest::onlyTheOutput);
    }

    private static void symmetries() {
        Check.sentence("Promise 20: the number of its symmetries", WordSentencesTest::symmetryNumbers);
        Check.sentence("Promise 20: also the one that changes nothing", WordSentencesTest::identity);
        Check.sentence("Promise 20: no such component", WordSentencesTest::noSymmetries);
        Check.sentence("Promise 21: size! / symmetries", WordSentencesTest::labellings);
        Check.sentence("Promise 21: no such component", WordSentencesTest::noLabellings);
    }

    private static void wordIs(String text, String... due) {
        TreeCodes x = Texts.of(text);
        for (int c = 0; c < due.length; c++) {
            Check.same("word " + c + " of " + text, Texts.word(x, c), due[c]);
        }
        Check.same("components of " + text, x.forest(2), due.length);
    }

    private static void wordOfOne() {
        wordIs("vertices 1;", "()");
        wordIs("vertices 3;", "()", "()", "()");
        wordIs(LONE, "()", "()", "()", "()", "()", "()", "()", "()", "()", "()");
        Check.same("a new object", Texts.word(new TreeCodes(), 0), "()");
    }

    private static void ascending() {
        wordIs("vertices 3;path 0 1 2;", "(()())");
        wordIs("vertices 4;star 3 0 1 2;", "(()()())");
        // deeper children come first, as "(" is ahead of ")"
        wordIs("vertices 7;star 0 1 2 3;star 4 0 5;edge 0 6;", "((())()()()())");
        wordIs("vertices 8;path 0 1 2;path 0 3 4 5;edge 0 6;edge 6 7;", "(((()))(())(()))");
        wordIs("vertices 9;path 0 1 2;star 0 3 4;star 4 5 6;edge 6 7;edge 0 8;", "(((())())(())()())");
        wordIs("vertices 9;star 0 1 2;star 1 3 4;path 2 5 6;edge 0 7;edge 0 8;", "(((()))(()())()())");
        wordIs(STAR, "(()()()()()()()()())");
    }

    private static void fromCentroid() {
        wordIs("vertices 5;path 4 3 2 1 0;", "((())(()))");
        // a broom: from its centroid 4, not from its center
        wordIs("vertices 9;path 0 1 2 3 4;star 4 5 6 7 8;", "((((())))()()()())");
        wordIs(MIXED, "((())(())()())", "(())", "()");
    }

    private static void twoCentroids() {
        wordIs("vertices 2;edge 0 1;", "(())");
        wordIs("vertices 4;path 0 1 2 3;", "((())())");
        wordIs("vertices 6;star 1 0 3 2;path 2 4 5;", "(((()))()())");
        wordIs("vertices 6;star 4 5 3 2;path 2 1 0;", "(((()))()())");
        wordIs(PATH, "(" + "((((()))))" + "(((())))" + ")");
        wordIs(TWO_STARS, "((()()()())()()()())");
    }

    private static void alike() {
        TreeCodes x = Texts.of("vertices 10;path 0 2 4 6;path 7 1 3 5;edge 8 9;");
        Check.same("one word", Texts.word(x, 0), Texts.word(x, 1));
        Check.same("one class", x.component(0, 5), x.component(1, 5));
        TreeCodes y = Texts.of("vertices 8;path 0 1 2 3;star 4 5 6 7;");
        Check.same("two words", Texts.word(y, 0) + Texts.word(y, 1), "((())())(()()())");
        Check.same("two classes", y.component(1, 5), 1);
    }

    private static void whateverTheNumbers() {
        String due = Texts.word(Texts.of("vertices 7;path 0 1 2 3;star 1 4;path 3 5 6;"), 0);
        for (int a = 0; a < 7; a++) {
            TreeCodes x = Texts.of("vertices 7;path 0 1 2 3;star 1 4;path 3 5 6;weight 2 50;");
            for (int b = 0; b < 7; b++) {
                x.swap(a, b);
                Check.same("exchanged", Texts.word(x, 0), due);
            }
        }
    }

    private static void writesWord() {
        for (int n = 1; n <= 10; n++) {
            TreeCodes x = Texts.of("vertices " + n + ";");
            x.fromRank(0);
            Check.same("length with " + n, x.writeWord(0), 2 * n);
            Check.same("output", Sight.output(x), "(" + "()".repeat(n - 1) + ")");
        }
    }

    private static void wordReplaces() {
        TreeCodes x = Texts.of(MIXED);
        x.writeText();
        x.writeWord(0);
        Check.same("behind a text", Sight.output(x), "((())(())()())");
        x.writeWord(2);
        Check.same("behind a longer word", Sight.output(x), "()");
        x.writeWord(1);
        Check.same("behind a shorter word", Sight.output(x), "(())");
    }

    private static void noWord() {
        TreeCodes x = Texts.of(MIXED);
        x.writeWord(1);
        for (int c : new int[] {-1, 3, 4, 10, 32, Integer.MIN_VALUE, Integer.MAX_VALUE}) {
            Check.raises("writeWord(" + c + ")", INDEX, () -> x.writeWord(c));
            Check.same("output", Sight.output(x), "(())");
        }
    }

    private static void textIs(String text, String due) {
        TreeCodes x = Texts.of(text);
        Check.same("length of " + text, x.writeText(), due.length());
        Check.same("output of " + text, Sight.output(x), due);
    }

    private static void writesText() {
        textIs("vertices 1;", "vertices 1;");
        textIs("vertices 1;weight 0 0;", "vertices 1;weight 0 0;");
        textIs("vertices 1;weight 0 01;", "vertices 1;");
        textIs("vertices 02;edge 01 00;", "vertices 2;edge 0 1;");
        textIs("vertices 10;", "vertices 10;");
        textIs(" vertices 10 ;\nedge 9 8; weight 9 99;", "vertices 10;edge 8 9;weight 9 99;");
        Check.same("a new object", Texts.text(new TreeCodes()), "vertices 1;");
    }

    private static void edgesInOrder() {
        textIs("vertices 5;edge 4 3;edge 4 0;edge 2 4;edge 1 0;", "vertices 5;edge 0 1;edge 0 4;edge 2 4;edge 3 4;");
        textIs("vertices 10;star 5 9 0 8 1 7 2 6 3;edge 4 9;",
            "vertices 10;edge 0 5;edge 1 5;edge 2 5;edge 3 5;edge 4 9;edge 5 6;edge 5 7;edge 5 8;edge 5 9;");
    }

    private static void weightsInOrder() {
        textIs("vertices 4;weight 3 10;weight 1 0;weight 2 1;weight 0 9;", "vertices 4;weight 0 9;weight 1 0;weight 3 10;");
        for (int weight = 0; weight <= 99; weight++) {
            TreeCodes x = new TreeCodes();
            x.setWeight(0, weight);
            Check.same("text", Texts.text(x), weight == 1 ? "vertices 1;" : "vertices 1;weight 0 " + weight + ";");
        }
    }

    private static void textReplaces() {
        TreeCodes x = Texts.of(MIXED);
        x.writeText();
        x.prune(9);
        x.setWeight(0, 1);
        x.writeText();
        Check.same("a shorter text", Sight.output(x), "vertices 10;weight 9 0;");
        x.writeWord(0);
        x.writeText();
        Check.same("behind a word", Sight.output(x), "vertices 10;weight 9 0;");
    }

    private static void loadsAgain() {
        String[] texts = {"vertices 1;weight 0 7;", LONE, PATH, STAR, TWO_STARS, MIXED, "vertices 7;code 1 2 2 1 3;weight 6 0;"};
        for (String text : texts) {
            TreeCodes x = Texts.of(text);
            TreeCodes again = Texts.of(Texts.text(x));
            Check.same("again " + text, Sight.vertices(again), Sight.vertices(x));
        }
    }

    private static void longest() {
        TreeCodes x = Texts.of(PATH);
        for (int v = 0; v < 10; v++) {
            x.setWeight(v, 10 + v);
        }
        int length = x.writeText();
        Check.same("length", length, 12 + 9 * 9 + 10 * 12);
        Check.same("last byte", x.outputByte(length - 1), ';');
        Check.raises("beyond", ELEMENT, () -> x.outputByte(length));
    }

    private static void bytes() {
        TreeCodes x = Texts.of("vertices 2;edge 0 1;weight 1 90;");
        String due = "vertices 2;edge 0 1;weight 1 90;";
        x.writeText();
        for (int i = due.length() - 1; i >= 0; i--) {
            Check.same("outputByte(" + i + ")", x.outputByte(i), due.charAt(i));
        }
        x.writeWord(0);
        Check.same("(", x.outputByte(0), 40);
        Check.same(")", x.outputByte(3), 41);
        x.cut(0, 1);
        Check.same("the output stays when the forest changes", Sight.output(x), "(())");
    }

    private static void noByte() {
        TreeCodes x = Texts.of("vertices 2;edge 0 1;");
        int[] ever = {-1, -2, -400, 20, 21, 32, 399, 400, 401, Integer.MIN_VALUE, Integer.MAX_VALUE};
        Check.raises("empty output", ELEMENT, () -> x.outputByte(0));
        x.writeText();
        for (int index : ever) {
            Check.raises("outputByte(" + index + ")", ELEMENT, () -> x.outputByte(index));
        }
        x.writeWord(0);
        Check.raises("outputByte(4), shorter now", ELEMENT, () -> x.outputByte(4));
        Check.raises("outputByte(19), shorter now", ELEMENT, () -> x.outputByte(19));
    }

    private static void onlyTheOutput() {
        TreeCodes x = Used.forest();
        String output = Sight.output(x);
        x.writeText();
        x.symmetries(0);
        x.labellings(2);
        x.writeWord(1);
        x.outputByte(0);
        Check.same("output", Sight.output(x), "(())");
        Check.same("all but the output", Sight.now(x).replace("output (())", "output " + output), Sight.now(Used.forest()));
        Check.same("the past", Sight.past(x), Sight.past(Used.forest()));
    }

    private static void symmetriesAre(String text, int... due) {
        TreeCodes x = Texts.of(text);
        for (int c = 0; c < due.length; c++) {
            Check.same("symmetries(" + c + ") of " + text, x.symmetries(c), due[c]);
        }
    }

    private static void symmetryNumbers() {
        symmetriesAre("vertices 2;edge 0 1;", 2);
        symmetriesAre("vertices 3;path 0 1 2;", 2);
        symmetriesAre("vertices 4;star 0 1 2 3;", 6);
        symmetriesAre(PATH, 2);
        symmetriesAre(STAR, 362880);
        symmetriesAre(TWO_STARS, 1152);
        symmetriesAre(MIXED, 4, 2, 1);
        symmetriesAre("vertices 10;path 0 1 2 3;path 0 4 5 6;path 0 7 8 9;weight 3 9;", 6);
        symmetriesAre("vertices 10;star 0 1 2 3;star 1 4 5;star 2 6 7;star 3 8 9;", 48);
        symmetriesAre("vertices 9;path 1 0 2;path 3 0 4;edge 1 5;edge 2 6;edge 3 7;edge 4 8;", 24);
    }

    private static void identity() {
        symmetriesAre("vertices 1;", 1);
        symmetriesAre(LONE, 1, 1, 1, 1, 1, 1, 1, 1, 1, 1);
        symmetriesAre("vertices 7;path 1 0 2 3;path 0 4 5 6;", 1);
    }

    private static void noSymmetries() {
        TreeCodes x = Texts.of(MIXED);
        for (int c : new int[] {-1, 3, 4, 10, 32, Integer.MIN_VALUE, Integer.MAX_VALUE}) {
            Check.raises("symmetries(" + c + ")", INDEX, () -> x.symmetries(c));
        }
    }

    private static void labellingsAre(String text, int... due) {
        TreeCodes x = Texts.of(text);
        for (int c = 0; c < due.length; c++) {
            Check.same("labellings(" + c + ") of " + text, x.labellings(c), due[c]);
        }
    }

    private static void labellings() {
        labellingsAre("vertices 1;", 1);
        labellingsAre("vertices 2;edge 0 1;", 1);
        labellingsAre("vertices 3;path 0 1 2;", 3);
        labellingsAre("vertices 4;path 0 1 2 3;", 12);
        labellingsAre("vertices 4;star 0 1 2 3;", 4);
        labellingsAre(LONE, 1, 1, 1, 1, 1, 1, 1, 1, 1, 1);
        labellingsAre(PATH, 1814400);
        labellingsAre(STAR, 10);
        labellingsAre(TWO_STARS, 3150);
        labellingsAre(MIXED, 1260, 1, 1);
        // the size of the component, not of the forest
        labellingsAre("vertices 10;path 0 1 2;path 3 4 5 6;", 3, 12, 1, 1, 1);
        labellingsAre("vertices 7;path 1 0 2 3;path 0 4 5 6;", 5040);
    }

    private static void noLabellings() {
        TreeCodes x = Texts.of(MIXED);
        for (int c : new int[] {-1, 3, 4, 10, 32, Integer.MIN_VALUE, Integer.MAX_VALUE}) {
            Check.raises("labellings(" + c + ")", INDEX, () -> x.labellings(c));
        }
    }
}
