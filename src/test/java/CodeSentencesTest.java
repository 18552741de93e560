import java.util.HashSet;
import java.util.NoSuchElementException;
import java.util.Set;

/** The sentences of "Codes" and "Counts" and of promises 14 to 16, 22 to 24, 31 and 32, one after the other. */
public final class CodeSentencesTest {
    private static final Class<?> ARGUMENT = IllegalArgumentException.class;
    private static final Class<?> STATE = IllegalStateException.class;
    private static final Class<?> ELEMENT = NoSuchElementException.class;

    private static final String PATH = "vertices 10;path 0 1 2 3 4 5 6 7 8 9;";
    private static final String STAR = "vertices 10;star 9 0 1 2 3 4 5 6 7 8;";

    public static void main(String[] args) {
        codes();
        counts();
        fromRanks();
        nextTrees();
        Check.end();
    }

    private static void codes() {
        Check.sentence("Codes: n - 2 numbers, none if n is 1 or 2", CodeSentencesTest::lengths);
        Check.sentence("Codes: the leaf with the lowest number is taken away", CodeSentencesTest::lowestLeaf);
        Check.sentence("Codes: each row is the code of just one tree", CodeSentencesTest::thereAndBack);
        Check.sentence("Promise 14: this number of the code", CodeSentencesTest::numbers);
        Check.sentence("Promise 14: no such index", CodeSentencesTest::noIndex);
        Check.sentence("Promise 14: the forest is no tree", CodeSentencesTest::codeOfNoTree);
        Check.sentence("Promise 15: the code as digits, the first one the most significant", CodeSentencesTest::ranks);
        Check.sentence("Promise 15: 0 if the code is empty", CodeSentencesTest::emptyRanks);
        Check.sentence("Promise 15: the least and the greatest rank", CodeSentencesTest::extremeRanks);
        Check.sentence("Promise 15: the forest is no tree", CodeSentencesTest::rankOfNoTree);
        Check.sentence("Promise 16: trees with the same degrees", CodeSentencesTest::sameDegrees);
        Check.sentence("Promise 16: 1 if there is one vertex", CodeSentencesTest::sameDegreesOfFew);
        Check.sentence("Promise 16: the forest is no tree", CodeSentencesTest::degreesOfNoTree);
        Check.sentence("Promises 14 to 16, 22 to 24: asking changes nothing", CodeSentencesTest::askingChangesNothing);
    }

    private static void counts() {
        Check.sentence("Promise 22: trees that have just so many leaves", CodeSentencesTest::withLeaves);
        Check.sentence("Promise 22: 1, 2 and 3 vertices", CodeSentencesTest::withLeavesOfFew);
        Check.sentence("Promise 22: all trees, by their leaves", CodeSentencesTest::allByLeaves);
        Check.sentence("Promise 23: classes of rooted trees", () -> classes(true, 1, 1, 2, 4, 9, 20, 48, 115, 286, 719));
        Check.sentence("Promise 23: classes of trees", () -> classes(false, 1, 1, 1, 2, 3, 6, 11, 23, 47, 106));
        Check.sentence("Promise 24: 0 how many have different words", () -> survey(0, 1, 1, 1, 2, 3, 6));
        Check.sentence("Promise 24: 1 the last one whose word was not met before", CodeSentencesTest::lastNew);
        Check.sentence("Promise 24: 2 the sum of the diameters", () -> survey(2, 0, 1, 6, 44, 430, 5322));
        Check.sentence("Promises 22 to 24: whatever the forest is", CodeSentencesTest::whateverTheForest);
    }

    private static void fromRanks() {
        Check.sentence("Promise 31: makes the forest the tree with a rank", CodeSentencesTest::fromEachRank);
        Check.sentence("Promise 31: 1, 2 and 3 vertices", CodeSentencesTest::fromRanksOfFew);
        Check.sentence("Promise 31: the edges that were not before", CodeSentencesTest::newEdges);
        Check.sentence("Promise 31: the least and the greatest rank", CodeSentencesTest::fromExtremeRanks);
        Check.sentence("Promise 31: there is no such rank", CodeSentencesTest::noRank);
        Check.sentence("Promise 31: the forest need not be a tree; weights stay", CodeSentencesTest::fromRankOfForest);
    }

    private static void nextTrees() {
        Check.sentence("Promise 32: the one with the next rank, and returns it", CodeSentencesTest::next);
        Check.sentence("Promise 32: from the least rank to the last", CodeSentencesTest::throughAll);
        Check.sentence("Promise 32: the tree after the last one is refused", CodeSentencesTest::noNext);
        Check.sentence("Promise 32: refused if it is no tree", CodeSentencesTest::nextOfNoTree);
        Check.sentence("Promise 32: 1, 2 and 3 vertices", CodeSentencesTest::nextOfFew);
    }

    private static void codeIs(String text, int... due) {
        TreeCodes x = Texts.of(text);
        for (int i = 0; i < due.length; i++) {
            Check.same("code(" + i + ") of " + text, x.code(i), due[i]);
        }
        Check.raises("code(" + due.length + ") of " + text, ELEMENT, () -> x.code(due.length));
        Check.raises("code(-1) of " + text, ELEMENT, () -> x.code(-1));
    }

    private static void lengths() {
        codeIs("vertices 1;");
        codeIs("vertices 2;edge 0 1;");
        codeIs("vertices 3;path 0 1 2;", 1);
        codeIs("vertices 4;path 0 1 2 3;", 1, 2);
        codeIs(PATH, 1, 2, 3, 4, 5, 6, 7, 8);
        codeIs(STAR, 9, 9, 9, 9, 9, 9, 9, 9);
    }

    private static void lowestLeaf() {
        codeIs("vertices 3;path 1 0 2;", 0);
        codeIs("vertices 3;path 0 2 1;", 2);
        // 0 is a leaf only when 5 and 4 are gone, and goes ahead of 6 then
        codeIs("vertices 7;path 4 5 0 6;star 6 1 2 3;", 6, 6, 6, 5, 0);
        codeIs("vertices 7;path 6 0 3 5;star 3 1 2 4;", 3, 3, 3, 3, 0);
        codeIs("vertices 10;path 9 8 7 6 5 4 3 2 1 0;", 1, 2, 3, 4, 5, 6, 7, 8);
        codeIs("vertices 10;path 5 0 6 1 7 2 8 3 9 4;", 9, 0, 6, 1, 7, 2, 8, 3);
        codeIs("vertices 10;star 0 1 2 3 4 5 6 7 8 9;", 0, 0, 0, 0, 0, 0, 0, 0);
    }

    /** All rows of up to three numbers, and some of eight. */
    private static void thereAndBack() {
        for (int n = 3; n <= 5; n++) {
            Set<String> met = new HashSet<>();
            int rows = n == 3 ? 3 : n == 4 ? 16 : 125;
            for (int row = 0; row < rows; row++) {
                TreeCodes x = Texts.of("vertices " + n + ";code" + digits(row, n) + ";");
                Check.same("code" + digits(row, n), codeOf(x), digits(row, n));
                met.add(Sight.vertices(x));
            }
            Check.same("different trees with " + n, met.size(), rows);
        }
        for (int row = 1; row < 90000000; row += 1234567) {
            TreeCodes x = Texts.of("vertices 10;code" + digits(row, 10) + ";");
            Check.same("code" + digits(row, 10), codeOf(x), digits(row, 10));
        }
    }

    private static String digits(int row, int n) {
        StringBuilder text = new StringBuilder();
        int rest = row;
        for (int i = 0; i < n - 2; i++) {
            text.insert(0, " " + rest % n);
            rest /= n;
        }
        return text.toString();
    }

    private static String codeOf(TreeCodes x) {
        StringBuilder text = new StringBuilder();
        for (int i = 0; i < x.forest(0) - 2; i++) {
            text.append(' ').append(x.code(i));
        }
        return text.toString();
    }

    private static void numbers() {
        codeIs("vertices 6;code 3 3 3 4;", 3, 3, 3, 4);
        TreeCodes x = Texts.of("vertices 6;code 3 3 3 4;");
        Check.same("the last one first", x.code(3), 4);
        x.swap(3, 4);
        Check.same("exchanged", codeOf(x), " 4 4 4 3");
        x.undo();
        Check.same("undone", codeOf(x), " 3 3 3 4");
    }

    private static void noIndex() {
        String[] texts = {"vertices 1;", "vertices 2;code;", "vertices 3;code 0;", PATH};
        int[] indexes = {-1, -2, 8, 9, 10, 32, Integer.MIN_VALUE, Integer.MAX_VALUE};
        for (String text : texts) {
            TreeCodes x = Texts.of(text);
            for (int index : indexes) {
                Check.raises("code(" + index + ") of " + text, ELEMENT, () -> x.code(index));
            }
        }
        Check.raises("code(0) of one vertex", ELEMENT, () -> new TreeCodes().code(0));
        Check.raises("code(0) of two vertices", ELEMENT, () -> Texts.of("vertices 2;code;").code(0));
        Check.raises("code(1) of three vertices", ELEMENT, () -> Texts.of("vertices 3;code 0;").code(1));
    }

    private static final String[] NO_TREES = {
        "vertices 2;", "vertices 3;edge 0 2;", "vertices 10;", "vertices 10;path 0 1 2 3 4 5 6 7 8;", "vertices 4;edge 0 1;edge 2 3;"
    };

    private static void codeOfNoTree() {
        for (String text : NO_TREES) {
            TreeCodes x = Texts.of(text);
            for (int index : new int[] {0, 1, 7, 8, -1, Integer.MIN_VALUE, Integer.MAX_VALUE}) {
                Check.raises("code(" + index + ") of " + text, STATE, () -> x.code(index));
            }
        }
    }

    private static void rankIs(String text, int due) {
        Check.same("rank() of " + text, Texts.of(text).rank(), due);
    }

    private static void ranks() {
        rankIs("vertices 3;code 1;", 1);
        rankIs("vertices 4;code 3 1;", 13);
        rankIs("vertices 4;code 1 3;", 7);
        rankIs("vertices 5;code 4 0 3;", 103);
        rankIs("vertices 9;code 1 0 0 0 0 0 0;", 531441);
        rankIs("vertices 10;code 0 0 0 0 0 0 0 1;", 1);
        rankIs("vertices 10;code 1 0 0 0 0 0 0 0;", 10000000);
        rankIs(PATH, 12345678);
    }

    private static void emptyRanks() {
        rankIs("vertices 1;", 0);
        rankIs("vertices 2;edge 0 1;", 0);
        Check.same("a new object", new TreeCodes().rank(), 0);
    }

    private static void extremeRanks() {
        int[] greatest = {0, 0, 2, 15, 124, 1295, 16806, 262143, 4782968, 99999999};
        for (int n = 3; n <= 10; n++) {
            rankIs("vertices " + n + ";code" + " 0".repeat(n - 2) + ";", 0);
            rankIs("vertices " + n + ";code" + (" " + (n - 1)).repeat(n - 2) + ";", greatest[n - 1]);
        }
    }

    private static void rankOfNoTree() {
        for (String text : NO_TREES) {
            Check.raises("rank() of " + text, STATE, () -> Texts.of(text).rank());
        }
        TreeCodes x = Texts.of(PATH);
        x.cut(4, 5);
        Check.raises("rank() behind a cut", STATE, () -> x.rank());
        x.undo();
        Check.same("rank() behind undo", x.rank(), 12345678);
    }

    private static void sameDegreesIs(String text, int due) {
        Check.same("sameDegrees() of " + text, Texts.of(text).sameDegrees(), due);
    }

    private static void sameDegrees() {
        sameDegreesIs("vertices 3;code 1;", 1);
        sameDegreesIs("vertices 4;code 1 1;", 1);
        sameDegreesIs("vertices 4;code 1 2;", 2);
        sameDegreesIs(PATH, 40320);
        sameDegreesIs(STAR, 1);
        sameDegreesIs("vertices 10;code 0 0 0 0 9 9 9 9;", 70);
        sameDegreesIs("vertices 10;code 0 1 0 1 2 2 3 3;", 2520);
        sameDegreesIs("vertices 7;code 0 0 0 1 2;", 20);
    }

    private static void sameDegreesOfFew() {
        Check.same("a new object", new TreeCodes().sameDegrees(), 1);
        sameDegreesIs("vertices 1;", 1);
        sameDegreesIs("vertices 2;edge 0 1;", 1);
    }

    private static void degreesOfNoTree() {
        for (String text : NO_TREES) {
            Check.raises("sameDegrees() of " + text, STATE, () -> Texts.of(text).sameDegrees());
        }
    }

    private static void askingChangesNothing() {
        TreeCodes x = Used.tree();
        for (int i = 0; i < 4; i++) {
            x.code(i);
        }
        x.rank();
        x.sameDegrees();
        for (int n = 1; n <= 6; n++) {
            x.withLeaves(n, 2);
            x.classes(n, n % 2 == 0);
            x.survey(n, n % 3);
        }
        Check.same("all that can be seen", Sight.now(x), Sight.now(Used.tree()));
        Check.same("the past", Sight.past(x), Sight.past(Used.tree()));
    }

    private static void withLeavesIs(int n, int... due) {
        TreeCodes x = new TreeCodes();
        for (int leaves = 0; leaves <= 10; leaves++) {
            int expected = leaves < due.length ? due[leaves] : 0;
            Check.same("withLeaves(" + n + ", " + leaves + ")", x.withLeaves(n, leaves), expected);
        }
    }

    private static void withLeaves() {
        withLeavesIs(4, 0, 0, 12, 4);
        withLeavesIs(5, 0, 0, 60, 60, 5);
        withLeavesIs(6, 0, 0, 360, 720, 210, 6);
        withLeavesIs(7, 0, 0, 2520, 8400, 5250, 630, 7);
        withLeavesIs(10, 0, 0, 1814400, 16934400, 40219200, 31752000, 8573040, 695520, 11430, 10);
    }

    private static void withLeavesOfFew() {
        withLeavesIs(1, 1);
        withLeavesIs(2, 0, 0, 1);
        withLeavesIs(3, 0, 0, 3);
    }

    private static void allByLeaves() {
        int[] trees = {1, 1, 3, 16, 125, 1296, 16807, 262144, 4782969, 100000000};
        TreeCodes x = new TreeCodes();
        for (int n = 1; n <= 10; n++) {
            int sum = 0;
            for (int leaves = 0; leaves <= 10; leaves++) {
                sum += x.withLeaves(n, leaves);
            }
            Check.same("all with " + n, sum, trees[n - 1]);
        }
    }

    private static void classes(boolean rooted, int... due) {
        TreeCodes x = new TreeCodes();
        for (int n = 10; n >= 1; n--) {
            Check.same("classes(" + n + ", " + rooted + ")", x.classes(n, rooted), due[n - 1]);
            Check.same("classes(" + n + ", " + rooted + ") alone", new TreeCodes().classes(n, rooted), due[n - 1]);
        }
    }

    private static void survey(int what, int... due) {
        TreeCodes x = new TreeCodes();
        for (int n = 1; n <= 6; n++) {
            Check.same("survey(" + n + ", " + what + ")", x.survey(n, what), due[n - 1]);
            Check.same("survey(" + n + ", " + what + ") alone", new TreeCodes().survey(n, what), due[n - 1]);
        }
        TreeCodes y = new TreeCodes();
        for (int n = 6; n >= 1; n--) {
            Check.same("survey(" + n + ", " + what + ") behind larger ones", y.survey(n, what), due[n - 1]);
        }
        Check.same("survey(6, " + what + ") again", x.survey(6, what), due[5]);
    }

    /** Words of the trees by their ranks, through the face alone. */
    private static void lastNew() {
        for (int n = 1; n <= 6; n++) {
            Set<String> met = new HashSet<>();
            int ranks = new int[] {1, 1, 3, 16, 125, 1296}[n - 1];
            int last = -1;
            TreeCodes x = new TreeCodes();
            for (int rank = 0; rank < ranks; rank++) {
                // few calls to an object, which is used for 512 at most
                x = rank % 20 == 0 ? Texts.of("vertices " + n + ";") : x;
                x.fromRank(rank);
                last = met.add(Texts.word(x, 0)) ? rank : last;
            }
            Check.same("survey(" + n + ", 1)", new TreeCodes().survey(n, 1), last);
        }
        survey(1, 0, 0, 0, 1, 7, 51);
    }

    private static void whateverTheForest() {
        for (String text : new String[] {"vertices 1;", "vertices 10;", PATH, STAR, "vertices 3;edge 0 2;weight 0 99;"}) {
            TreeCodes x = Texts.of(text);
            Check.same("withLeaves(6, 4)", x.withLeaves(6, 4), 210);
            Check.same("classes(7, true)", x.classes(7, true), 48);
            Check.same("classes(8, false)", x.classes(8, false), 23);
            Check.same("survey(5, 0)", x.survey(5, 0), 3);
            Check.same("survey(5, 2)", x.survey(5, 2), 430);
            Check.same("survey(4, 1)", x.survey(4, 1), 1);
        }
    }

    private static void fromEachRank() {
        for (int n = 1; n <= 5; n++) {
            int ranks = new int[] {1, 1, 3, 16, 125}[n - 1];
            TreeCodes x = Texts.of("vertices " + n + ";");
            for (int rank = ranks - 1; rank >= 0; rank--) {
                x.fromRank(rank);
                Check.same("rank() behind fromRank(" + rank + ")", x.rank(), rank);
            }
        }
        TreeCodes ten = Texts.of("vertices 10;");
        ten.fromRank(12345678);
        Check.same("text", Texts.text(ten), Texts.text(Texts.of(PATH)));
    }

    private static void fromRanksOfFew() {
        TreeCodes one = new TreeCodes();
        Check.same("one vertex", one.fromRank(0), 0);
        Check.same("one vertex, made", one.account(4), 1);
        Check.same("one vertex, a change", one.forest(8), 1);
        TreeCodes two = Texts.of("vertices 2;");
        Check.same("two vertices", two.fromRank(0), 1);
        Check.same("two vertices, text", Texts.text(two), "vertices 2;edge 0 1;");
        Check.same("two vertices again", two.fromRank(0), 0);
        TreeCodes three = Texts.of("vertices 3;");
        Check.same("three vertices, 2", three.fromRank(2), 2);
        Check.same("three vertices, text", Texts.text(three), "vertices 3;edge 0 2;edge 1 2;");
        Check.same("three vertices, 0", three.fromRank(0), 1);
        Check.same("three vertices, text again", Texts.text(three), "vertices 3;edge 0 1;edge 0 2;");
    }

    private static void newEdges() {
        TreeCodes x = Texts.of(STAR);
        Check.same("the same", x.fromRank(99999999), 0);
        Check.same("to the star at 0", x.fromRank(0), 8);
        Check.same("to the path", x.fromRank(12345678), 8);
        Check.same("from nothing", Texts.of("vertices 10;").fromRank(12345678), 9);
        Check.same("from half of it", Texts.of("vertices 10;path 0 1 2 3 4 5;").fromRank(12345678), 4);
    }

    private static void fromExtremeRanks() {
        int[] greatest = {0, 0, 2, 15, 124, 1295, 16806, 262143, 4782968, 99999999};
        for (int n = 1; n <= 10; n++) {
            TreeCodes x = Texts.of("vertices " + n + ";");
            x.fromRank(greatest[n - 1]);
            Check.same("the star at the last vertex of " + n, x.vertex(n - 1, 0), n - 1);
            x.fromRank(0);
            Check.same("the star at 0 of " + n, x.vertex(0, 0), n - 1);
            Check.raises("beyond the greatest of " + n, ARGUMENT, () -> x.fromRank(greatest[x.forest(0) - 1] + 1));
            Check.raises("before the least of " + n, ARGUMENT, () -> x.fromRank(-1));
        }
    }

    private static void noRank() {
        int[] ranks = {-1, -2, Integer.MIN_VALUE, 125, 126, 1000, Integer.MAX_VALUE};
        for (int rank : ranks) {
            Refused.changesNothing("fromRank(" + rank + ")", ARGUMENT, () -> Texts.of("vertices 5;edge 0 1;weight 2 4;"), x -> x.fromRank(rank));
        }
    }

    private static void fromRankOfForest() {
        TreeCodes x = Texts.of("vertices 5;edge 0 1;weight 0 0;weight 4 9;");
        Check.same("fromRank(31)", x.fromRank(31), 3);
        Check.same("text", Texts.text(x), "vertices 5;edge 0 1;edge 1 2;edge 1 3;edge 1 4;weight 0 0;weight 4 9;");
    }

    private static void next() {
        TreeCodes x = Texts.of("vertices 4;code 1 3;weight 2 8;");
        Check.same("nextTree()", x.nextTree(), 8);
        Check.same("rank()", x.rank(), 8);
        Check.same("text", Texts.text(x), "vertices 4;edge 0 2;edge 0 3;edge 1 2;weight 2 8;");
        TreeCodes ten = Texts.of(PATH);
        Check.same("nextTree() of ten", ten.nextTree(), 12345679);
        Check.same("code", codeOf(ten), " 1 2 3 4 5 6 7 9");
    }

    private static void throughAll() {
        for (int n = 3; n <= 5; n++) {
            int ranks = new int[] {3, 16, 125}[n - 3];
            TreeCodes x = Texts.of("vertices " + n + ";code" + " 0".repeat(n - 2) + ";");
            for (int rank = 1; rank < ranks; rank++) {
                Check.same("nextTree()", x.nextTree(), rank);
                Check.same("rank()", x.rank(), rank);
            }
            Check.same("nextTree() of the last", x.nextTree(), -1);
            Check.same("made", x.account(4), ranks - 1);
        }
    }

    private static void noNext() {
        TreeCodes x = Texts.of("vertices 10;code 9 9 9 9 9 9 9 8;weight 0 7;");
        Check.same("nextTree()", x.nextTree(), 99999999);
        String before = Sight.vertices(x);
        for (int i = 1; i <= 3; i++) {
            Check.same("nextTree() of the last", x.nextTree(), -1);
            Check.same("the forest stays", Sight.vertices(x), before);
            Check.same("refused", x.account(8), i);
            Check.same("made", x.account(4), 1);
            Check.same("changes", x.forest(8), 1);
        }
    }

    private static void nextOfNoTree() {
        for (String text : NO_TREES) {
            TreeCodes x = Texts.of(text);
            String before = Sight.vertices(x);
            Check.same("nextTree() of " + text, x.nextTree(), -1);
            Check.same("the forest stays", Sight.vertices(x), before);
            Check.same("accounts", Sight.accounts(x), "0 0 0 0 0 0 0 0 1 0");
            Check.same("changes", x.forest(8), 0);
        }
    }

    private static void nextOfFew() {
        TreeCodes one = new TreeCodes();
        Check.same("one vertex", one.nextTree(), -1);
        Check.same("one vertex, accounts", Sight.accounts(one), "0 0 0 0 0 0 0 0 1 0");
        TreeCodes two = Texts.of("vertices 2;code;");
        Check.same("two vertices", two.nextTree(), -1);
        Check.same("two vertices, accounts", Sight.accounts(two), "0 0 0 0 0 0 0 0 1 0");
        TreeCodes three = Texts.of("vertices 3;code 0;");
        Check.same("three vertices", three.nextTree(), 1);
        Check.same("three vertices, again", three.nextTree(), 2);
        Check.same("three vertices, the last", three.nextTree(), -1);
        Check.same("three vertices, accounts", Sight.accounts(three), "0 0 0 0 2 0 0 0 1 0");
    }
}
