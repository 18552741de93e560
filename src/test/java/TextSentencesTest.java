import java.util.NoSuchElementException;

/** The sentences of "Texts", "Errors of a text" and of promises 1 to 5, one after the other. */
public final class TextSentencesTest {
    public static void main(String[] args) {
        newObjects();
        buffers();
        loads();
        statements();
        errors();
        Check.end();
    }

    private static void newObjects() {
        Check.sentence("Promise 1: the forest of the text \"vertices 1;\"", TextSentencesTest::newForest);
        Check.sentence("Promise 1: the input buffer is empty", TextSentencesTest::newBuffer);
        Check.sentence("Promise 1: the output is empty", TextSentencesTest::newOutput);
        Check.sentence("Promise 1: no changes, no snapshots, no accounts", TextSentencesTest::newPast);
        Check.sentence("Promise 1: objects have nothing in common", TextSentencesTest::twoObjects);
        Check.sentence("The constants: NONE = -1", () -> Check.same("NONE", TreeCodes.NONE, -1));
    }

    private static void buffers() {
        Check.sentence("Promise 2: twenty bytes, most significant first", TextSentencesTest::bytesInOrder);
        Check.sentence("Promise 2: returns the new length", TextSentencesTest::appendedLengths);
        Check.sentence("Promise 2: an append may fill the buffer to its last byte", TextSentencesTest::lastByte);
        Check.sentence("Promise 2: NONE, and the buffer is unchanged, beyond 400 bytes", TextSentencesTest::noRoom);
        Check.sentence("Promise 2: appends behind what is there", TextSentencesTest::appendsBehind);
        Check.sentence("Promise 3: shortens to each length that is there", TextSentencesTest::shortens);
        Check.sentence("Promise 3: false, and unchanged, if length is negative", TextSentencesTest::negativeLength);
        Check.sentence("Promise 3: false, and unchanged, if length is greater", TextSentencesTest::greaterLength);
        Check.sentence("Promise 4: the current length", TextSentencesTest::currentLength);
        Check.sentence("Promises 2 to 4: nothing but the buffer changes", TextSentencesTest::onlyTheBuffer);
    }

    private static void loads() {
        Check.sentence("Promise 5: returns the number of edges", TextSentencesTest::numbersOfEdges);
        Check.sentence("Promise 5: the buffer is empty afterwards", TextSentencesTest::emptyAfterwards);
        Check.sentence("Promise 5: replaces everything", TextSentencesTest::replacesEverything);
        Check.sentence("Promise 5: replaces a forest of each size", TextSentencesTest::replacesEachSize);
        Check.sentence("Promise 5: everything but the output", TextSentencesTest::outputStays);
        Check.sentence("Promise 5: if there is an error, everything stays", TextSentencesTest::everythingStays);
        Check.sentence("Promise 5: an empty text", TextSentencesTest::emptyText);
        Check.sentence("Promise 5: texts of 400 bytes", TextSentencesTest::textsOf400);
        Check.sentence("Promise 5: errors at the end of 400 bytes", TextSentencesTest::errorsAt400);
    }

    private static void statements() {
        Check.sentence("Texts: 1 to 10 vertices", TextSentencesTest::oneToTen);
        Check.sentence("Texts: \"edge\"", TextSentencesTest::edge);
        Check.sentence("Texts: \"path\" adds an edge between each two neighboring numbers", TextSentencesTest::path);
        Check.sentence("Texts: \"star\" adds one between its first number and each other one", TextSentencesTest::star);
        Check.sentence("Texts: \"code\" adds the edges of the tree with this code", TextSentencesTest::code);
        Check.sentence("Texts: \"code\" stands ahead of all edges", TextSentencesTest::codeFirst);
        Check.sentence("Texts: weights 0 to 99, 1 if nothing is told", TextSentencesTest::weights);
        Check.sentence("Texts: later weights replace earlier ones", TextSentencesTest::laterWeights);
        Check.sentence("Texts: a NUMBER is a run of 1 or 2 digits", TextSentencesTest::digits);
        Check.sentence("Texts: a word is a maximal run of letters", TextSentencesTest::maximalWords);
        Check.sentence("Texts: words that differ in one letter", TextSentencesTest::otherLetters);
        Check.sentence("Texts: spaces and newlines may stand anywhere between tokens", TextSentencesTest::blanks);
        Check.sentence("Texts: spaces and newlines part tokens", TextSentencesTest::blanksPart);
    }

    private static void errors() {
        Check.sentence("Errors: 1, a byte that begins no token", TextSentencesTest::strayBytes);
        Check.sentence("Errors: 1, a longer run of digits", TextSentencesTest::longRuns);
        Check.sentence("Errors: 1, a token that is not allowed there", TextSentencesTest::notAllowed);
        Check.sentence("Errors: the length of the text if it ends too early", TextSentencesTest::tooEarly);
        Check.sentence("Errors: 1, the NUMBER of a code that has n - 2 already", TextSentencesTest::codeTooLong);
        Check.sentence("Errors: 1, the ; of a code that has fewer", TextSentencesTest::codeTooShort);
        Check.sentence("Errors: 2, vertices that are not 1 to 10", TextSentencesTest::verticesOutOfRange);
        Check.sentence("Errors: 2, a NUMBER that is no vertex", TextSentencesTest::noVertex);
        Check.sentence("Errors: 3, an edge that there is already", TextSentencesTest::edgeTwice);
        Check.sentence("Errors: 3, an edge that would close a cycle", TextSentencesTest::cycle);
        Check.sentence("Errors: 3, an edge between a vertex and itself", TextSentencesTest::loop);
        Check.sentence("Errors: 4, the word \"code\" if there are edges", TextSentencesTest::lateCode);
        Check.sentence("Errors: the least offset is reported", TextSentencesTest::leastOffset);
        Check.sentence("Errors: the least kind of one token", TextSentencesTest::leastKind);
    }

    private static void newForest() {
        TreeCodes x = new TreeCodes();
        int[] due = {1, 0, 1, 0, 1, 1, 1, 0, 0};
        for (int what = 0; what < due.length; what++) {
            Check.same("forest(" + what + ")", x.forest(what), due[what]);
        }
        Check.same("text", Texts.text(x), "vertices 1;");
    }

    private static void newBuffer() {
        TreeCodes x = new TreeCodes();
        Check.same("bufferLength()", x.bufferLength(), 0);
        Check.fails("truncate(1)", x.truncate(1));
        Check.same("load()", x.load(), -1);
    }

    private static void newOutput() {
        TreeCodes x = new TreeCodes();
        Check.same("output", Sight.output(x), "");
        Check.raises("outputByte(0)", NoSuchElementException.class, () -> x.outputByte(0));
    }

    private static void newPast() {
        TreeCodes x = new TreeCodes();
        Check.same("accounts", Sight.accounts(x), "0 0 0 0 0 0 0 0 0 0");
        Check.same("undo()", x.undo(), -1);
        for (int snapshot = 0; snapshot < 3; snapshot++) {
            Check.fails("restore(" + snapshot + ")", x.restore(snapshot));
        }
    }

    private static void twoObjects() {
        TreeCodes x = Used.forest();
        TreeCodes y = new TreeCodes();
        Check.same("the new one", Sight.now(y), Sight.now(new TreeCodes()));
        y.load();
        y.setWeight(0, 9);
        y.keep(1);
        y.writeText();
        Check.same("the old one", Sight.now(x), Sight.now(Used.forest()));
        Check.same("its past", Sight.past(x), Sight.past(Used.forest()));
    }

    private static void bytesInOrder() {
        TreeCodes x = new TreeCodes();
        // "vert" "ices" " 2;e" "dge " "0 1;"
        x.append(0x76657274, 0x69636573, 0x20323b65, 0x64676520, 0x3020313b);
        Check.same("load()", x.load(), 1);
        // a byte 255 at each of the twenty places is the first error
        for (int at = 0; at < 20; at++) {
            int[] fours = {0x20202020, 0x20202020, 0x20202020, 0x20202020, 0x20202020};
            fours[at / 4] |= 255 << 24 - 8 * (at % 4);
            x.append(fours[0], fours[1], fours[2], fours[3], fours[4]);
            Check.same("byte " + at, x.load(), -(8 * at + 1));
        }
    }

    private static void appendedLengths() {
        TreeCodes x = new TreeCodes();
        for (int i = 1; i <= 20; i++) {
            Check.same("append no. " + i, x.append(i, 0, -1, Integer.MIN_VALUE, Integer.MAX_VALUE), 20 * i);
        }
    }

    private static void lastByte() {
        for (int length = 361; length <= 380; length++) {
            TreeCodes x = filled(length);
            Check.same("append to " + length, x.append(0, 0, 0, 0, 0), length + 20);
            Check.same("bufferLength()", x.bufferLength(), length + 20);
        }
    }

    private static void noRoom() {
        for (int length = 381; length <= 400; length++) {
            TreeCodes x = filled(length);
            Check.same("append to " + length, x.append(0x41414141, 0, 0, 0, 0), -1);
            Check.same("bufferLength()", x.bufferLength(), length);
            Check.same("load()", x.load(), -(8 * length + 1));
        }
        TreeCodes x = Used.forest();
        x.truncate(0);
        Texts.feed(x, " ".repeat(381));
        String before = Sight.now(x);
        Check.same("append", x.append(0, 0, 0, 0, 0), -1);
        Check.same("all that can be seen", Sight.now(x), before);
    }

    /** Blanks of this length in the buffer. */
    private static TreeCodes filled(int length) {
        TreeCodes x = new TreeCodes();
        for (int i = 0; i < 20; i++) {
            x.append(0x20202020, 0x20202020, 0x20202020, 0x20202020, 0x20202020);
        }
        x.truncate(length);
        return x;
    }

    private static void appendsBehind() {
        TreeCodes x = new TreeCodes();
        x.append(0x76657274, 0x69636573, 0x20323b65, 0x64676520, 0x3020313b);
        x.truncate(11);
        // "weig" "ht 1" " 07;"
        Check.same("append", x.append(0x77656967, 0x68742031, 0x2030373b, 0x20202020, 0x20202020), 31);
        Check.same("load()", x.load(), 0);
        Check.same("weight", x.vertex(1, 1), 7);
    }

    private static void shortens() {
        TreeCodes x = filled(400);
        for (int length = 400; length >= 0; length--) {
            Check.holds("truncate(" + length + ")", x.truncate(length));
            if (length % 25 == 0) {
                Check.same("bufferLength()", x.bufferLength(), length);
            }
        }
        Check.holds("truncate(0) of the empty one", x.truncate(0));
        TreeCodes y = new TreeCodes();
        Texts.feed(y, "vertices 4;edge 0 1;edge 2 3;");
        Check.holds("truncate(20)", y.truncate(20));
        Check.same("load()", y.load(), 1);
    }

    private static void negativeLength() {
        TreeCodes x = new TreeCodes();
        Texts.feed(x, "vertices 4;edge 0 1;");
        int[] lengths = {-1, -2, -20, -256, Integer.MIN_VALUE, Integer.MIN_VALUE + 1};
        for (int length : lengths) {
            Check.fails("truncate(" + length + ")", x.truncate(length));
            Check.same("bufferLength()", x.bufferLength(), 20);
        }
        Check.same("load()", x.load(), 1);
        Check.fails("truncate(-1) of the empty one", x.truncate(-1));
        Check.same("bufferLength() at last", x.bufferLength(), 0);
    }

    private static void greaterLength() {
        TreeCodes x = new TreeCodes();
        Texts.feed(x, "vertices 4;edge 0 1;");
        int[] lengths = {21, 22, 40, 276, 399, 400, 401, Integer.MAX_VALUE - 1, Integer.MAX_VALUE};
        for (int length : lengths) {
            Check.fails("truncate(" + length + ")", x.truncate(length));
            Check.same("bufferLength()", x.bufferLength(), 20);
        }
        x.truncate(19);
        Check.fails("truncate(20) behind truncate(19)", x.truncate(20));
        Check.same("load()", x.load(), -(8 * 19 + 1));
        Check.fails("truncate(1) of the empty one", x.truncate(1));
        Check.fails("truncate(401) of the full one", filled(400).truncate(401));
    }

    private static void currentLength() {
        TreeCodes x = new TreeCodes();
        Check.same("new", x.bufferLength(), 0);
        x.append(0, 0, 0, 0, 0);
        Check.same("appended", x.bufferLength(), 20);
        Check.same("asked again", x.bufferLength(), 20);
        x.truncate(13);
        Check.same("truncated", x.bufferLength(), 13);
        x.append(0, 0, 0, 0, 0);
        Check.same("appended again", x.bufferLength(), 33);
        x.load();
        Check.same("loaded with an error", x.bufferLength(), 0);
        Texts.load(x, "vertices 3;");
        Check.same("loaded", x.bufferLength(), 0);
    }

    private static void onlyTheBuffer() {
        TreeCodes x = Used.forest();
        int length = x.bufferLength();
        x.append(1, 2, 3, 4, 5);
        x.append(6, 7, 8, 9, 0);
        x.truncate(length);
        x.truncate(-1);
        x.bufferLength();
        Check.same("all that can be seen", Sight.now(x), Sight.now(Used.forest()));
        Check.same("the past", Sight.past(x), Sight.past(Used.forest()));
    }

    private static void reads(String text, int due) {
        TreeCodes x = new TreeCodes();
        Check.same("load " + text, Texts.load(x, text), due);
        Check.same("buffer behind " + text, x.bufferLength(), 0);
    }

    private static void reads(String text, int due, String described) {
        TreeCodes x = new TreeCodes();
        Check.same("load " + text, Texts.load(x, text), due);
        Check.same("forest of " + text, Texts.text(x), described);
    }

    private static void error(String before, String rest, int kind) {
        reads(before + rest, -(8 * before.length() + kind));
    }

    private static void numbersOfEdges() {
        reads("vertices 1;", 0);
        reads("vertices 10;", 0);
        StringBuilder text = new StringBuilder("vertices 10;path 0");
        for (int edges = 1; edges <= 9; edges++) {
            text.append(' ').append(edges);
            reads(text + ";", edges);
        }
        reads("vertices 4;edge 0 1;edge 2 3;", 2);
    }

    private static void emptyAfterwards() {
        TreeCodes x = new TreeCodes();
        Texts.load(x, "vertices 3;edge 0 1;");
        Check.same("behind a load", x.bufferLength(), 0);
        Check.same("an empty one", x.load(), -1);
        Texts.load(x, "vertices 3;edge 0 1");
        Check.same("behind an error", x.bufferLength(), 0);
        Check.same("an empty one again", x.load(), -1);
        Texts.load(x, "vertices 3;");
        Check.same("behind a load again", x.bufferLength(), 0);
    }

    private static void replacesEverything() {
        TreeCodes x = Used.forest();
        Check.same("load", Texts.replace(x, "vertices 4;edge 1 3;weight 2 50;"), 1);
        TreeCodes fresh = Texts.of("vertices 4;edge 1 3;weight 2 50;");
        Check.same("vertices", Sight.vertices(x), Sight.vertices(fresh));
        Check.same("snapshots", x.forest(7), 0);
        Check.same("changes", x.forest(8), 0);
        Check.same("accounts", Sight.accounts(x), "0 0 0 0 0 0 0 0 0 0");
        Check.same("undo()", x.undo(), -1);
        Check.fails("restore(0)", x.restore(0));
        Check.fails("restore(2)", x.restore(2));
        Check.fails("keep(0)", x.keep(0));
        Check.same("no such vertex", Texts.replace(x, "vertices 2;"), 0);
        Check.raises("vertex(2, 0)", IndexOutOfBoundsException.class, () -> x.vertex(2, 0));
        Texts.replace(x, "vertices 4;");
        Check.same("no old weight and no old edge", Sight.vertices(x), "0*1 0*1 0*1 0*1 ");
    }

    private static void replacesEachSize() {
        for (int before = 1; before <= 10; before++) {
            TreeCodes x = new TreeCodes();
            for (int n = 10; n >= 1; n--) {
                Texts.load(x, "vertices " + before + ";code" + " 0".repeat(Math.max(before - 2, 0)) + ";weight 0 9;");
                Texts.load(x, "vertices " + n + ";");
                Check.same("vertices behind " + before, x.forest(0), n);
                Check.same("edges behind " + before, x.forest(1), 0);
                Check.same("weights behind " + before, x.forest(5), n);
            }
        }
    }

    private static void outputStays() {
        TreeCodes x = Texts.of("vertices 3;path 0 1 2;");
        x.writeWord(0);
        Texts.load(x, "vertices 2;");
        Check.same("behind a load", Sight.output(x), "(()())");
        Texts.load(x, "vertices 0;");
        Check.same("behind an error", Sight.output(x), "(()())");
    }

    private static void everythingStays() {
        String[] wrong = {"", "vertices", "vertices 11;", "vertices 2;edge 0 1;edge 1 0;", "vertices 10;weight 0 9;%",
            "vertices 6;path 0 1 2 3 4 5;weight 0 9;code", "vertices 3;code 1;weight 1 100;"};
        for (String text : wrong) {
            TreeCodes x = Used.forest();
            Texts.replace(x, text);
            TreeCodes twin = Used.forest();
            twin.truncate(0);
            Check.same("behind " + text, Sight.now(x), Sight.now(twin));
            Check.same("the past behind " + text, Sight.past(x), Sight.past(twin));
        }
    }

    private static void emptyText() {
        TreeCodes x = new TreeCodes();
        Check.same("new", x.load(), -1);
        Texts.feed(x, "vertices 3;");
        x.truncate(0);
        Check.same("truncated", x.load(), -1);
        reads(" ", -(8 + 1));
        reads("\n", -(8 + 1));
        reads(" \n  ", -(8 * 4 + 1));
    }

    private static void textsOf400() {
        String head = "vertices 10;path 0 1 2 3 4 5 6 7 8 9;";
        String tail = "weight 9 42;";
        String text = head + " ".repeat(400 - head.length() - tail.length()) + tail;
        reads(text, 9, "vertices 10;edge 0 1;edge 1 2;edge 2 3;edge 3 4;edge 4 5;edge 5 6;edge 6 7;edge 7 8;edge 8 9;weight 9 42;");
        reads("\n".repeat(400 - head.length()) + head, 9);
        reads(head + "\n".repeat(400 - head.length()), 9);
        reads("vertices 1;" + "code;".repeat(77) + "    ", 0);
        StringBuilder weights = new StringBuilder("vertices 10;    ");
        for (int i = 0; i < 32; i++) {
            weights.append("weight ").append(i % 10).append(' ').append(10 + i).append(';');
        }
        TreeCodes x = new TreeCodes();
        Check.same("length", weights.length(), 400);
        Check.same("load of 32 weights", Texts.load(x, weights.toString()), 0);
        Check.same("the latest weight", x.vertex(1, 1), 41);
        Check.same("the weight ahead of it", x.vertex(0, 1), 40);
        Check.same("the sum", x.forest(5), 32 + 33 + 34 + 35 + 36 + 37 + 38 + 39 + 40 + 41);
    }

    private static void errorsAt400() {
        String head = "vertices 10;path 0 1 2 3 4 5 6 7 8 9;";
        String blanks = " ".repeat(400 - head.length());
        error(head + blanks.substring(1), ";", 1);
        error(head + blanks.substring(1), "x", 1);
        error(head + blanks.substring(1), "7", 1);
        error(head + blanks.substring(4), "code", 4);
        error(head + blanks.substring(4), "edge", 1, 400);
        error(head + blanks.substring(11), "weight 9 42", 1, 400);
        error("vertices 3;" + " ".repeat(400 - 11 - 8) + "edge 0 ", "0", 3);
        error("vertices 3;" + " ".repeat(400 - 11 - 8) + "edge 0 ", "3", 2);
        error("vertices 3;" + " ".repeat(400 - 11 - 8) + "edge 0 ", "1", 1, 400);
        error("", "x".repeat(400), 1);
        error("", "7".repeat(400), 1);
        error("", ";".repeat(400), 1);
        error(" ".repeat(400), "", 1);
        error("vertices 1;" + " ".repeat(400 - 11 - 4), "code", 1, 400);
    }

    private static void error(String before, String rest, int kind, int offset) {
        reads(before + rest, -(8 * offset + kind));
    }

    private static void oneToTen() {
        for (int n = 1; n <= 10; n++) {
            TreeCodes x = Texts.of("vertices " + n + ";");
            Check.same("vertices", x.forest(0), n);
            Check.same("components", x.forest(2), n);
            Check.same("weights", x.forest(5), n);
            Check.same("last vertex", x.vertex(n - 1, 2), n - 1);
        }
    }

    private static void edge() {
        for (int a = 0; a < 10; a++) {
            for (int b = 0; b < 10; b++) {
                if (a != b) {
                    reads("vertices 10;edge " + a + " " + b + ";", 1,
                        "vertices 10;edge " + Math.min(a, b) + " " + Math.max(a, b) + ";");
                }
            }
        }
    }

    private static void path() {
        reads("vertices 5;path 3 1;", 1, "vertices 5;edge 1 3;");
        reads("vertices 5;path 3 1 4;", 2, "vertices 5;edge 1 3;edge 1 4;");
        reads("vertices 5;path 3 1 4 0 2;", 4, "vertices 5;edge 0 2;edge 0 4;edge 1 3;edge 1 4;");
        reads("vertices 10;path 9 8 7 6 5 4 3 2 1 0;", 9,
            "vertices 10;edge 0 1;edge 1 2;edge 2 3;edge 3 4;edge 4 5;edge 5 6;edge 6 7;edge 7 8;edge 8 9;");
    }

    private static void star() {
        reads("vertices 5;star 3 1;", 1, "vertices 5;edge 1 3;");
        reads("vertices 5;star 3 1 4;", 2, "vertices 5;edge 1 3;edge 3 4;");
        reads("vertices 5;star 3 1 4 0 2;", 4, "vertices 5;edge 0 3;edge 1 3;edge 2 3;edge 3 4;");
        reads("vertices 10;star 0 9 8 7 6 5 4 3 2 1;", 9,
            "vertices 10;edge 0 1;edge 0 2;edge 0 3;edge 0 4;edge 0 5;edge 0 6;edge 0 7;edge 0 8;edge 0 9;");
        reads("vertices 6;star 0 1 2;path 3 4 5;edge 5 0;", 5,
            "vertices 6;edge 0 1;edge 0 2;edge 0 5;edge 3 4;edge 4 5;");
    }

    private static void code() {
        reads("vertices 1;code;", 0, "vertices 1;");
        reads("vertices 2;code;", 1, "vertices 2;edge 0 1;");
        reads("vertices 3;code 0;", 2, "vertices 3;edge 0 1;edge 0 2;");
        reads("vertices 3;code 1;", 2, "vertices 3;edge 0 1;edge 1 2;");
        reads("vertices 3;code 2;", 2, "vertices 3;edge 0 2;edge 1 2;");
        reads("vertices 6;code 3 3 3 4;", 5, "vertices 6;edge 0 3;edge 1 3;edge 2 3;edge 3 4;edge 4 5;");
        reads("vertices 10;code 9 9 9 9 9 9 9 9;", 9,
            "vertices 10;edge 0 9;edge 1 9;edge 2 9;edge 3 9;edge 4 9;edge 5 9;edge 6 9;edge 7 9;edge 8 9;");
    }

    private static void codeFirst() {
        reads("vertices 4;weight 0 5;code 1 1;", 3, "vertices 4;edge 0 1;edge 1 2;edge 1 3;weight 0 5;");
        reads("vertices 4;weight 0 5;weight 1 6;code 1 1;weight 0 7;", 3,
            "vertices 4;edge 0 1;edge 1 2;edge 1 3;weight 0 7;weight 1 6;");
        reads("vertices 1;code;code;weight 0 2;code;", 0, "vertices 1;weight 0 2;");
    }

    private static void weights() {
        for (int weight = 0; weight <= 99; weight++) {
            TreeCodes x = Texts.of("vertices 2;weight 1 " + weight + ";");
            Check.same("weight", x.vertex(1, 1), weight);
            Check.same("the other one", x.vertex(0, 1), 1);
        }
        TreeCodes x = Texts.of("vertices 10;weight 0 2;weight 9 99;");
        Check.same("weights", x.forest(5), 2 + 8 + 99);
    }

    private static void laterWeights() {
        reads("vertices 2;weight 1 5;weight 1 0;", 0, "vertices 2;weight 1 0;");
        reads("vertices 2;weight 1 5;weight 1 1;", 0, "vertices 2;");
        reads("vertices 2;weight 0 5;weight 1 9;weight 0 99;", 0, "vertices 2;weight 0 99;weight 1 9;");
    }

    private static void digits() {
        reads("vertices 03;edge 00 02;weight 01 00;", 1, "vertices 3;edge 0 2;weight 1 0;");
        reads("vertices 10;edge 09 8;weight 9 01;weight 8 09;", 1, "vertices 10;edge 8 9;weight 8 9;");
        reads("vertices 01;", 0, "vertices 1;");
        reads("vertices3;path0 1 2;weight2 45;", 2, "vertices 3;edge 0 1;edge 1 2;weight 2 45;");
        reads("vertices 10;edge 01;", -(8 * 19 + 1));
        reads("vertices 10;edge 1 0;", 1);
        reads("vertices 10;edge 10;", -(8 * 17 + 2));
    }

    private static void maximalWords() {
        error("vertices 3;", "edgeedge 0 1;", 1);
        error("vertices 3;", "edges 0 1;", 1);
        error("vertices 3;", "edg 0 1;", 1);
        error("vertices 3;", "weigh 0 1;", 1);
        error("vertices 3;", "weights 0 1;", 1);
        error("vertices 3;", "codes 1;", 1);
        error("vertices 3;", "cod 1;", 1);
        error("vertices 3;", "paths 0 1;", 1);
        error("vertices 3;", "pat 0 1;", 1);
        error("vertices 3;", "stars 0 1;", 1);
        error("vertices 3;", "sta 0 1;", 1);
        error("", "vertice 3;", 1);
        error("", "verticess 3;", 1);
        error("", "verticesedge 3;", 1);
        error("vertices 3;", "Edge 0 1;", 1);
        error("vertices 3;edge 0 1;weight 2 ", "x5;", 1);
    }

    /** A letter more ahead or behind, or another letter or sign at each place. */
    private static void otherLetters() {
        for (String word : new String[] {"vertices", "edge", "path", "star", "code", "weight"}) {
            String head = word.equals("vertices") ? "" : "vertices 4;";
            for (char sign = 'a'; sign <= 'z'; sign++) {
                error(head, sign + word + " 1 2;", 1);
                error(head, word + sign + " 1 2;", 1);
                for (int at = 0; at < word.length(); at++) {
                    char other = word.charAt(at) == sign ? Character.toUpperCase(sign) : sign;
                    error(head, word.substring(0, at) + other + word.substring(at + 1) + " 1 2;", 1);
                }
            }
        }
    }

    private static void blanks() {
        String[] tokens = {"vertices", "7", ";", "code", "1", "2", "2", "1", "3", ";", "weight", "6", "42", ";", "weight", "0", "0", ";"};
        String due = "vertices 7;edge 0 1;edge 1 2;edge 1 3;edge 2 4;edge 2 5;edge 3 6;weight 0 0;weight 6 42;";
        betweenTokens(tokens, 6, due);
        String[] others = {"vertices", "7", ";", "edge", "0", "1", ";", "path", "2", "1", "3", ";", "star", "4", "5", "6", "3", ";"};
        betweenTokens(others, 6, "vertices 7;edge 0 1;edge 1 2;edge 1 3;edge 3 4;edge 4 5;edge 4 6;");
    }

    /** The gap stands at one place in turn, then at all of them. */
    private static void betweenTokens(String[] tokens, int edges, String due) {
        for (String gap : new String[] {" ", "\n", "  \n \n\n"}) {
            StringBuilder everywhere = new StringBuilder(gap);
            for (int at = 0; at <= tokens.length; at++) {
                StringBuilder text = new StringBuilder();
                for (int i = 0; i <= tokens.length; i++) {
                    text.append(i == at ? gap : "").append(i > 0 && i < tokens.length ? " " : "");
                    text.append(i < tokens.length ? tokens[i] : "");
                }
                reads(text.toString(), edges, due);
                everywhere.append(at < tokens.length ? tokens[at] + gap : "");
            }
            reads(everywhere.toString(), edges, due);
        }
    }

    private static void blanksPart() {
        error("", "ver tices 3;", 1);
        error("vertices ", "1", 1, 10);
        error("vertices 1 ", "0;", 1);
        error("vertices 1\n", "0;", 1);
        error("vertices 3;edge 0 1 ", "1;", 1);
        error("vertices 3;", "ed\nge 0 1;", 1);
    }

    private static void strayBytes() {
        for (int sign = 0; sign < 256; sign++) {
            boolean blank = sign == ' ' || sign == '\n';
            String one = String.valueOf((char) sign);
            if (blank) {
                reads("vertices 3;" + one, 0);
                reads("vertices 3;edge 0 1" + one + ";", 1);
            } else {
                error("vertices 3;", one, 1);
                error("", one, 1);
                int kind = sign >= '0' && sign <= '9' ? 2 : 1;
                int offset = kind == 2 ? 18 : sign == ';' ? 20 : 19;
                error("vertices 3;edge 0 1" + one, ";", kind, offset);
            }
        }
    }

    private static boolean isLetter(int sign) {
        return sign >= 'a' && sign <= 'z';
    }

    private static void longRuns() {
        String[] runs = {"000", "001", "003", "100", "010", "4294967297", "4294967299", "18446744073709551617", "0".repeat(200)};
        for (String run : runs) {
            error("vertices ", run + ";", 1);
            error("vertices 3;edge ", run + " 0;", 1);
            error("vertices 3;edge 2 ", run + ";", 1);
            error("vertices 3;path 0 1 ", run + ";", 1);
            error("vertices 3;star 0 1 ", run + ";", 1);
            error("vertices 3;code ", run + ";", 1);
            error("vertices 3;weight ", run + " 5;", 1);
            error("vertices 3;weight 0 ", run + ";", 1);
        }
    }

    /** What may stand behind each beginning: w a word, n a number, s a semicolon, e the end. */
    private static final String[][] BEGINNINGS = {
        {"", ""}, {"vertices ", "n"}, {"vertices 5 ", "s"}, {"vertices 5;", "we"},
        {"vertices 5;edge ", "n"}, {"vertices 5;edge 0 ", "n"}, {"vertices 5;edge 0 1 ", "s"},
        {"vertices 5;path ", "n"}, {"vertices 5;path 0 ", "n"}, {"vertices 5;path 0 1 ", "ns"},
        {"vertices 5;path 0 1 2 ", "ns"}, {"vertices 5;star ", "n"}, {"vertices 5;star 0 ", "n"},
        {"vertices 5;star 0 1 ", "ns"}, {"vertices 5;star 0 1 2 ", "ns"},
        {"vertices 5;code ", "n"}, {"vertices 5;code 1 ", "n"}, {"vertices 5;code 1 1 ", "n"},
        {"vertices 5;code 1 1 1 ", "s"}, {"vertices 5;weight ", "n"}, {"vertices 5;weight 0 ", "n"},
        {"vertices 5;weight 0 7 ", "s"}, {"vertices 5;edge 0 1;", "we"}, {"vertices 5;weight 0 7;", "we"},
        {"vertices 1;code ", "s"}, {"vertices 2;code ", "s"}, {"vertices 5;code 1 1 1;", "we"}
    };

    private static final String[][] TOKENS = {
        {";", "s"}, {"4", "n"}, {"edge", "w"}, {"weight", "w"}, {"code", "w"}, {"vertices", "x"}, {"zz", "x"},
        {"100", "x"}, {"%", "x"}, {"-", "x"}, {"A", "x"}, {"\t", "x"}, {"\r", "x"}, {"", "e"}
    };

    private static void notAllowed() {
        for (String[] beginning : BEGINNINGS) {
            for (String[] token : TOKENS) {
                boolean first = beginning[0].isEmpty() && token[0].equals("vertices");
                if (!beginning[1].contains(token[1]) && !first) {
                    error(beginning[0], token[0], 1);
                    error(beginning[0], token[0] + (token[0].isEmpty() ? "" : " ;"), 1);
                }
            }
        }
    }

    private static void tooEarly() {
        String whole = "vertices 5;path 0 1 2;star 3 4;weight 4 12;edge 2 3;";
        for (int length = 0; length < whole.length(); length++) {
            String text = whole.substring(0, length);
            boolean inWord = length > 0 && isLetter(whole.charAt(length)) && isLetter(whole.charAt(length - 1));
            if (!inWord && !text.endsWith(";")) {
                reads(text, -(8 * length + 1));
                reads(text + " ", -(8 * (length + 1) + 1));
                reads(text + "\n  \n", -(8 * (length + 4) + 1));
            }
        }
        reads("vertices 4;code", -(8 * 15 + 1));
        reads("vertices 4;code 1", -(8 * 17 + 1));
        reads("vertices 4;code 1 1", -(8 * 19 + 1));
        reads("vertices 2;code", -(8 * 15 + 1));
    }

    private static void codeTooLong() {
        error("vertices 1;code ", "0;", 1);
        error("vertices 2;code ", "0;", 1);
        error("vertices 2;code ", "1;", 1);
        error("vertices 3;code 1 ", "1;", 1);
        error("vertices 3;code 1 ", "1", 1);
        error("vertices 4;code 1 1 ", "1;", 1);
        error("vertices 10;code 0 0 0 0 0 0 0 0 ", "0;", 1);
    }

    private static void codeTooShort() {
        error("vertices 3;code", ";", 1);
        error("vertices 4;code", ";", 1);
        error("vertices 4;code 1", ";", 1);
        error("vertices 10;code", ";", 1);
        error("vertices 10;code 0 0 0 0 0 0 0", ";", 1);
        error("vertices 10;code 0 0 0 0 0 0 0 ", ";", 1);
    }

    private static void verticesOutOfRange() {
        String[] numbers = {"0", "00", "11", "12", "20", "99"};
        for (String number : numbers) {
            error("vertices ", number + ";", 2);
            error("vertices ", number, 2);
            error("  vertices\n", number + ";edge 0 1;", 2);
        }
    }

    private static void noVertex() {
        for (int n = 1; n <= 10; n++) {
            String head = "vertices " + n + ";";
            for (int number : new int[] {n, n + 1, 10, 11, 32, 33, 99}) {
                if (number >= n) {
                    error(head + "edge ", number + " 0;", 2);
                    error(head + "edge 0 ", number + ";", 2);
                    error(head + "path ", number + " 0;", 2);
                    error(head + "path 0 ", number + ";", 2);
                    error(head + "star ", number + " 0;", 2);
                    error(head + "star 0 ", number + ";", 2);
                    error(head + "weight ", number + " 5;", 2);
                }
            }
        }
        error("vertices 4;path 0 1 ", "4;", 2);
        error("vertices 4;star 0 1 ", "4;", 2);
        error("vertices 3;code ", "3;", 2);
        error("vertices 4;code ", "4 0;", 2);
        error("vertices 4;code 3 ", "4;", 2);
        error("vertices 10;code 0 1 2 3 4 5 6 ", "10;", 2);
    }

    private static void edgeTwice() {
        String[] first = {"edge 0 1;", "edge 1 0;", "path 0 1;", "path 2 1 0;", "star 0 1;", "star 1 3 0;"};
        for (String text : first) {
            error("vertices 4;" + text + "edge 0 ", "1;", 3);
            error("vertices 4;" + text + "edge 1 ", "0;", 3);
            error("vertices 4;" + text + "path 0 ", "1;", 3);
            error("vertices 4;" + text + "star 1 ", "0;", 3);
        }
        error("vertices 2;code;edge 0 ", "1;", 3);
        error("vertices 3;code 1;edge 2 ", "1;", 3);
        error("vertices 3;path 0 1 ", "0;", 3);
        error("vertices 3;star 0 1 ", "1;", 3);
        error("vertices 3;star 0 2 1 ", "2;", 3);
    }

    private static void cycle() {
        error("vertices 3;edge 0 1;edge 1 2;edge 2 ", "0;", 3);
        error("vertices 3;path 0 1 2 ", "0;", 3);
        error("vertices 4;path 0 1 2;path 3 2 ", "0;", 3);
        error("vertices 4;path 0 1 2;star 2 3 ", "0;", 3);
        error("vertices 4;code 1 2;edge 0 ", "3;", 3);
        error("vertices 10;path 0 1 2 3 4 5 6 7 8 9 ", "0;", 3);
        error("vertices 10;path 0 1 2 3 4 5 6 7 8;edge 8 ", "0;", 3);
        error("vertices 10;star 0 1 2 3 4 5 6 7 8 9;edge 9 ", "8;", 3);
        reads("vertices 4;path 0 1 2;edge 2 3;", 3);
    }

    private static void loop() {
        error("vertices 1;edge 0 ", "0;", 3);
        error("vertices 10;edge 9 ", "9;", 3);
        error("vertices 3;edge 1 ", "01;", 3);
        error("vertices 3;path 0 ", "0;", 3);
        error("vertices 3;path 0 1 ", "1;", 3);
        error("vertices 3;star 2 ", "2;", 3);
        error("vertices 3;star 2 0 ", "2;", 3);
    }

    private static void lateCode() {
        error("vertices 4;edge 0 1;", "code 0 0;", 4);
        error("vertices 4;path 0 1 2;", "code 0 0;", 4);
        error("vertices 4;star 0 1;", "code;", 4);
        error("vertices 4;star 0 1;weight 0 5;", "code", 4);
        error("vertices 4;code 1 1;", "code 1 1;", 4);
        error("vertices 2;code;", "code;", 4);
        error("vertices 3;code 1;  ", "code x", 4);
        error("vertices 4;edge 0 1;", "codes 0 0;", 1);
    }

    private static void leastOffset() {
        error("vertices ", "0;%%%", 2);
        error("vertices 3;edge 0 ", "3;code;", 2);
        error("vertices 3;edge 0 ", "0%", 3);
        error("vertices 3;edge 0 ", "0 100", 3);
        error("vertices 3;edge 0 1;", "code 9", 4);
        error("vertices 3;edge 0 1;", "code 100;", 4);
        error("vertices 3;edge ", "3 100;", 2);
        error("vertices 3;weight ", "3 100;", 2);
        error("vertices 4;code 1 ", "4 100;", 2);
        error("vertices 3;edge 0 1 ", "2;edge 0 1;", 1);
        error("", "% vertices 0;", 1);
    }

    private static void leastKind() {
        error("vertices ", "011;", 1);
        error("vertices 3;edge 0 ", "333;", 1);
        error("vertices 3;edge 0 ", "000;", 1);
        error("vertices 3;weight 0 ", "100;", 1);
        error("vertices 3;weight ", "333 1;", 1);
        error("vertices 3;code 1 ", "9;", 1);
        error("vertices 2;code ", "99;", 1);
        error("vertices 3;edge 0 1 ", "9;", 1);
        error("vertices 3;edge 0 1;edge 0 ", "3;", 2);
    }
}
