import java.util.NoSuchElementException;

/** Each promise by itself: ordinary inputs, the edges that the document names, wrong inputs. */
public final class PromisesTest {
    private static final Class<?> INDEX = IndexOutOfBoundsException.class;
    private static final Class<?> ARGUMENT = IllegalArgumentException.class;
    private static final Class<?> STATE = IllegalStateException.class;
    private static final Class<?> ELEMENT = NoSuchElementException.class;

    /** 0-1-2-3-4 with 5 and 6 at 2, and 7-8 apart, 9 alone. */
    private static final String MIXED =
        "vertices 10;path 0 1 2 3 4;star 2 5 6;edge 8 7;weight 0 20;weight 9 0;";

    public static void main(String[] args) {
        newObject();
        append();
        truncate();
        bufferLength();
        load();
        loadReplaces();
        textErrors();
        forest();
        vertex();
        orbits();
        component();
        distance();
        onPath();
        median();
        meanDistance();
        balance();
        code();
        rank();
        sameDegrees();
        writeWord();
        writeText();
        outputByte();
        symmetries();
        labellings();
        withLeaves();
        classes();
        survey();
        link();
        cut();
        regraft();
        prune();
        swap();
        setWeight();
        fromRank();
        nextTree();
        keep();
        restore();
        undo();
        account();
        Check.end();
    }

    private static void newObject() {
        TreeCodes x = new TreeCodes();
        Check.same("1: NONE", TreeCodes.NONE, -1);
        Check.same("1: vertices", x.forest(0), 1);
        Check.same("1: weight", x.vertex(0, 1), 1);
        Check.same("1: snapshots", x.forest(7), 0);
        Check.same("1: changes", x.forest(8), 0);
        Check.same("1: buffer", x.bufferLength(), 0);
        Check.raises("1: output", ELEMENT, () -> x.outputByte(0));
        Check.same("1: text", Texts.text(x), "vertices 1;");
        for (int what = 0; what <= 9; what++) {
            Check.same("1: account " + what, x.account(what), 0);
        }
    }

    private static void append() {
        TreeCodes x = new TreeCodes();
        // "vertices 2;edge 0 1;" with its most significant bytes first
        Check.same("2: append", x.append(0x76657274, 0x69636573, 0x20323b65, 0x64676520, 0x3020313b), 20);
        Check.same("2: load", x.load(), 1);
        for (int i = 1; i <= 20; i++) {
            Check.same("2: append no. " + i, x.append(0x20202020, -1, Integer.MIN_VALUE, 0, 1), 20 * i);
        }
        Check.same("2: too long", x.append(0, 0, 0, 0, 0), -1);
        Check.same("2: unchanged", x.bufferLength(), 400);
        x.truncate(380);
        Check.same("2: up to 400", x.append(0, 0, 0, 0, 0), 400);
        x.truncate(381);
        Check.same("2: up to 401", x.append(0, 0, 0, 0, 0), -1);
        Check.same("2: still 381", x.bufferLength(), 381);
        Check.same("2: unchanged bytes", x.load(), -(8 * 4 + 1));
    }

    private static void truncate() {
        TreeCodes x = new TreeCodes();
        Check.fails("3: beyond empty", x.truncate(1));
        Check.holds("3: empty", x.truncate(0));
        Texts.feed(x, "vertices 3;edge 0 1;");
        Check.fails("3: longer", x.truncate(21));
        Check.fails("3: negative", x.truncate(-1));
        Check.fails("3: least", x.truncate(Integer.MIN_VALUE));
        Check.same("3: unchanged", x.bufferLength(), 20);
        Check.holds("3: same", x.truncate(20));
        Check.holds("3: shorter", x.truncate(11));
        Check.same("3: shortened", x.bufferLength(), 11);
        Check.same("3: load", x.load(), 0);
    }

    private static void bufferLength() {
        TreeCodes x = new TreeCodes();
        x.append(0, 0, 0, 0, 0);
        Check.same("4: appended", x.bufferLength(), 20);
        x.truncate(7);
        Check.same("4: truncated", x.bufferLength(), 7);
        x.load();
        Check.same("4: loaded", x.bufferLength(), 0);
    }

    private static void loads(String text, int due) {
        TreeCodes x = new TreeCodes();
        Check.same("5: load " + text, Texts.load(x, text), due);
        Check.same("5: buffer behind " + text, x.bufferLength(), 0);
    }

    private static void load() {
        loads("vertices 1;", 0);
        loads("vertices 10;", 0);
        loads("vertices 05;", 0);
        loads("vertices10;path0 1 2 03;", 3);
        loads(" \n vertices\n4 ;\nedge 0\n3 ; ", 1);
        loads("vertices 4;edge 0 3;edge 3 1;star 1 2;", 3);
        loads("vertices 10;path 0 1 2 3 4 5 6 7 8 9;", 9);
        loads("vertices 10;star 9 0 1 2 3 4 5 6 7 8;", 9);
        loads("vertices 1;code;", 0);
        loads("vertices 1;code;code;", 0);
        loads("vertices 2;code;", 1);
        loads("vertices 3;weight 1 99;code 1;", 2);
        loads("vertices 10;code 0 0 0 0 0 0 0 0;", 9);
        loads("vertices 2;weight 0 0;weight 0 07;weight 1 99;", 0);
        TreeCodes x = Texts.of("vertices 6;code 3 3 3 4;weight 0 5;weight 0 7;weight 2 0;");
        Check.same("5: text", Texts.text(x),
            "vertices 6;edge 0 3;edge 1 3;edge 2 3;edge 3 4;edge 4 5;weight 0 7;weight 2 0;");
    }

    private static void loadReplaces() {
        TreeCodes x = Texts.of("vertices 3;path 0 1 2;weight 1 9;");
        x.keep(2);
        x.link(0, 0);
        x.cut(0, 1);
        Texts.load(x, "vertices 2;edge 0 2;");
        Check.same("5: error leaves the text", Texts.text(x), "vertices 3;edge 1 2;weight 1 9;");
        Check.same("5: error leaves snapshots", x.forest(7), 4);
        Check.same("5: error leaves changes", x.forest(8), 1);
        Check.same("5: error leaves accounts", x.account(5) + 10 * x.account(1), 11);
        int length = x.writeText();
        Check.same("5: again", Texts.load(x, "vertices 4;"), 0);
        Check.same("5: output stays", Texts.output(x, length), "vertices 3;edge 1 2;weight 1 9;");
        Check.same("5: snapshots go", x.forest(7), 0);
        Check.same("5: changes go", x.forest(8), 0);
        Check.same("5: nothing to undo", x.undo(), -1);
        Check.same("5: accounts go", x.account(5) + x.account(1), 0);
        Check.same("5: weights go", x.forest(5), 4);
        Check.fails("5: no snapshot", x.restore(2));
    }

    private static void error(String before, String rest, int kind) {
        loads(before + rest, -(8 * before.length() + kind));
    }

    private static void textErrors() {
        error("", "", 1);
        error("  ", "", 1);
        error("\n", "\t", 1);
        error("", "vertex 3;", 1);
        error("", "Vertices 3;", 1);
        error("", "verticesx 3;", 1);
        error("", "3;", 1);
        error("vertices", "", 1);
        error("vertices ", ";", 1);
        error("vertices ", "0;", 2);
        error("vertices ", "11;", 2);
        error("vertices ", "99", 2);
        error("vertices ", "010;", 1);
        error("vertices 3", "", 1);
        error("vertices 3 ", "4;", 1);
        error("vertices 3;", "vertices 3;", 1);
        error("vertices 3;", ";", 1);
        error("vertices 3;", "0", 1);
        error("vertices 3;", "edges 0 1;", 1);
        error("vertices 3;", "edgez 0 1;", 1);
        error("vertices 3;", "fdge 0 1;", 1);
        error("vertices 3;", "edga 0 1;", 1);
        error("", "wertices 3;", 1);
        error("vertices 3;", "\u00ff", 1);
        error("vertices 3;", "\u0000", 1);
        error("vertices 3;edge ", ";", 1);
        error("vertices 3;edge 0 ", ";", 1);
        error("vertices 3;edge 0 1 ", "2;", 1);
        error("vertices 3;edge 0 1 ", "edge 1 2;", 1);
        error("vertices 3;edge 0 1", "", 1);
        error("vertices 3;edge 0 1   ", "", 1);
        error("vertices 3;edge 0 1", "-2;", 1);
        error("vertices 3;edge ", "3 0;", 2);
        error("vertices 3;edge 0 ", "3;", 2);
        error("vertices 3;edge 0 ", "00;", 3);
        error("vertices 3;edge 0 1;edge 0 ", "1;", 3);
        error("vertices 3;edge 0 1;edge 1 ", "0;", 3);
        error("vertices 3;path 0 1 2;edge 2 ", "0;", 3);
        error("vertices 3;path 0 1 ", "0;", 3);
        error("vertices 3;path 0 1 2 ", "0;", 3);
        error("vertices 3;path 0 1 2 ", "3;", 2);
        error("vertices 3;path 0 1 2 ", "100;", 1);
        error("vertices 3;star 0 1 ", "1;", 3);
        error("vertices 3;star 0 1 ", "0;", 3);
        error("vertices 3;star 0 ", ";", 1);
        error("vertices 3;path 0 ", ";", 1);
        error("vertices 4;code 1 ", ";", 1);
        error("vertices 4;code 1 ", "edge", 1);
        error("vertices 4;code 1 1 ", "1;", 1);
        error("vertices 4;code 1 1 ", "9;", 1);
        error("vertices 4;code 1 ", "4;", 2);
        error("vertices 4;code 1 1", "", 1);
        error("vertices 1;code ", "0;", 1);
        error("vertices 2;code ", "0;", 1);
        error("vertices 4;edge 0 1;", "code 0 0;", 4);
        error("vertices 2;code;", "code;", 4);
        error("vertices 4;edge 0 1 ", "code", 1);
        error("vertices 4;code 1 1;edge 0 ", "2;", 3);
        error("vertices 3;weight ", "3 1;", 2);
        error("vertices 3;weight 2 ", ";", 1);
        error("vertices 3;weight 2 ", "100;", 1);
        error("vertices 3;weight 2 5 ", "5;", 1);
        error("vertices 3;weight 2 5", "x;", 1);
    }

    private static void forest() {
        TreeCodes x = Texts.of(MIXED);
        int[] due = {10, 7, 3, 6, 1, 28, 3, 0, 0};
        for (int what = 0; what < due.length; what++) {
            Check.same("6: forest(" + what + ")", x.forest(what), due[what]);
        }
        Check.same("6: forest(9)", x.forest(9), -1);
        Check.same("6: forest(-1)", x.forest(-1), -1);
        Check.same("6: forest(greatest)", x.forest(Integer.MAX_VALUE), -1);
        x.keep(0);
        x.keep(2);
        Check.same("6: snapshots", x.forest(7), 5);
        for (int i = 1; i <= 9; i++) {
            x.setWeight(0, i);
            Check.same("6: changes", x.forest(8), Math.min(i, 8));
        }
        Check.same("6: classes", Texts.of("vertices 9;path 0 1 2;path 3 4 5;edge 6 7;").forest(6), 3);
        Check.same("6: classes of lone ones", Texts.of("vertices 10;").forest(6), 1);
    }

    private static void vertex() {
        TreeCodes x = Texts.of(MIXED);
        int[] two = {4, 1, 0, 7, 2, 2, 0b1101010};
        for (int what = 0; what < two.length; what++) {
            Check.same("7: vertex(2, " + what + ")", x.vertex(2, what), two[what]);
        }
        int[] rounds = {1, 2, 2, 2, 1, 1, 1, 1, 1, 0};
        for (int v = 0; v < 10; v++) {
            Check.same("7: round of " + v, x.vertex(v, 5), rounds[v]);
        }
        Check.same("7: nothing is pruned by asking", x.forest(1), 7);
        Check.same("7: weight", x.vertex(0, 1), 20);
        Check.same("7: component", x.vertex(8, 2), 1);
        Check.same("7: component of a lone one", x.vertex(9, 2), 2);
        Check.same("7: eccentricity", x.vertex(0, 4), 4);
        Check.same("7: eccentricity of a lone one", x.vertex(9, 4), 0);
        Check.raises("7: no vertex", INDEX, () -> x.vertex(10, 0));
        Check.raises("7: negative vertex", INDEX, () -> x.vertex(-1, 0));
        Check.raises("7: both wrong", INDEX, () -> x.vertex(10, 8));
        Check.raises("7: what 8", ARGUMENT, () -> x.vertex(9, 8));
        Check.raises("7: what -1", ARGUMENT, () -> x.vertex(0, -1));
        Check.same("7: rounds of a path", Texts.of("vertices 4;path 0 1 2 3;").vertex(1, 5), 2);
        Check.same("7: rounds of a shorter path", Texts.of("vertices 3;path 0 1 2;").vertex(1, 5), 1);
    }

    private static void orbits() {
        TreeCodes x = Texts.of(MIXED);
        int[] due = {0b10001, 0b1010, 0b100, 0b1010, 0b10001, 0b1100000, 0b1100000, 0b110000000, 0b110000000, 0b1000000000};
        for (int v = 0; v < 10; v++) {
            Check.same("7: orbit of " + v, x.vertex(v, 7), due[v]);
        }
        TreeCodes apart = Texts.of("vertices 4;edge 0 1;edge 2 3;");
        Check.same("7: orbits keep to the component", apart.vertex(0, 7), 0b11);
    }

    private static void component() {
        TreeCodes x = Texts.of(MIXED);
        int[] first = {0b1111111, 4, 0b100, 0b100, 0b1, 0, 4};
        for (int what = 0; what < first.length; what++) {
            Check.same("8: component(0, " + what + ")", x.component(0, what), first[what]);
        }
        int[] second = {0b110000000, 1, 0b110000000, 0b110000000, 0b110000000, 1, 2};
        for (int what = 0; what < second.length; what++) {
            Check.same("8: component(1, " + what + ")", x.component(1, what), second[what]);
        }
        int[] third = {0b1000000000, 0, 0b1000000000, 0b1000000000, 0b1000000000, 2, 0};
        for (int what = 0; what < third.length; what++) {
            Check.same("8: component(2, " + what + ")", x.component(2, what), third[what]);
        }
        Check.raises("8: no component", INDEX, () -> x.component(3, 0));
        Check.raises("8: negative component", INDEX, () -> x.component(-1, 0));
        Check.raises("8: both wrong", INDEX, () -> x.component(3, 7));
        Check.raises("8: what 7", ARGUMENT, () -> x.component(2, 7));
        Check.raises("8: what -1", ARGUMENT, () -> x.component(0, -1));
        // a broom: its center and its centroid differ
        TreeCodes broom = Texts.of("vertices 8;path 0 1 2 3 4;star 4 5 6 7;");
        Check.same("8: centers", broom.component(0, 2), 0b1100);
        Check.same("8: centroids", broom.component(0, 3), 0b11000);
        TreeCodes weightless = Texts.of("vertices 3;path 0 1 2;weight 0 0;weight 1 0;weight 2 0;");
        Check.same("8: weightless", weightless.component(0, 4), 0b111);
        TreeCodes heavy = Texts.of("vertices 4;path 0 1 2 3;weight 0 1;weight 1 0;weight 2 0;weight 3 1;");
        Check.same("8: weighted centroids", heavy.component(0, 4), 0b1111);
        TreeCodes alike = Texts.of("vertices 7;edge 0 6;path 1 2 3;edge 4 5;");
        Check.same("8: class of the third", alike.component(2, 5), 0);
        Check.same("8: class of the second", alike.component(1, 5), 1);
    }

    private static void distance() {
        TreeCodes x = Texts.of(MIXED);
        Check.same("9: far", x.distance(4, 0), 4);
        Check.same("9: near", x.distance(7, 8), 1);
        Check.same("9: itself", x.distance(9, 9), 0);
        Check.same("9: apart", x.distance(0, 9), -1);
        Check.raises("9: a", INDEX, () -> x.distance(10, 0));
        Check.raises("9: b", INDEX, () -> x.distance(0, -1));
    }

    private static void onPath() {
        TreeCodes x = Texts.of(MIXED);
        int[] due = {5, 2, 1, 0};
        for (int step = 0; step < due.length; step++) {
            Check.same("10: onPath(5, 0, " + step + ")", x.onPath(5, 0, step), due[step]);
        }
        Check.same("10: itself", x.onPath(9, 9, 0), 9);
        Check.raises("10: step beyond", ELEMENT, () -> x.onPath(5, 0, 4));
        Check.raises("10: step before", ELEMENT, () -> x.onPath(5, 0, -1));
        Check.raises("10: no path", ELEMENT, () -> x.onPath(0, 9, 0));
        Check.raises("10: a", INDEX, () -> x.onPath(-1, 0, -1));
        Check.raises("10: b", INDEX, () -> x.onPath(0, 10, 0));
    }

    private static void median() {
        TreeCodes x = Texts.of(MIXED);
        Check.same("11: apart", x.median(0, 4, 6), 2);
        Check.same("11: on the path", x.median(0, 1, 4), 1);
        Check.same("11: two the same", x.median(5, 5, 0), 5);
        Check.same("11: all the same", x.median(9, 9, 9), 9);
        Check.raises("11: first apart", ELEMENT, () -> x.median(9, 0, 0));
        Check.raises("11: second apart", ELEMENT, () -> x.median(0, 9, 0));
        Check.raises("11: third apart", ELEMENT, () -> x.median(0, 0, 9));
        Check.raises("11: a", INDEX, () -> x.median(10, 0, 9));
        Check.raises("11: b", INDEX, () -> x.median(0, 10, 9));
        Check.raises("11: c", INDEX, () -> x.median(0, 9, 10));
    }

    private static void meanDistance() {
        TreeCodes x = Texts.of(MIXED);
        Check.same("12: end", x.meanDistance(0), 16.0 / 7.0);
        Check.same("12: middle", x.meanDistance(2), 8.0 / 7.0);
        Check.same("12: pair", x.meanDistance(7), 0.5);
        Check.same("12: alone", x.meanDistance(9), 0.0);
        Check.raises("12: vertex", INDEX, () -> x.meanDistance(10));
        Check.raises("12: negative", INDEX, () -> x.meanDistance(-1));
    }

    private static void balance() {
        TreeCodes x = Texts.of(MIXED);
        Check.same("13: end", x.balance(0), 6.0f / 7.0f);
        Check.same("13: middle", x.balance(2), 2.0f / 7.0f);
        Check.same("13: pair", x.balance(7), 0.5f);
        Check.same("13: alone", x.balance(9), 0.0f);
        Check.raises("13: vertex", INDEX, () -> x.balance(10));
        Check.raises("13: negative", INDEX, () -> x.balance(-1));
    }

    private static void code() {
        TreeCodes x = Texts.of("vertices 7;path 6 0 3 5;star 3 1 2 4;");
        int[] due = {3, 3, 3, 3, 0};
        for (int i = 0; i < due.length; i++) {
            Check.same("14: code(" + i + ")", x.code(i), due[i]);
        }
        Check.raises("14: beyond", ELEMENT, () -> x.code(5));
        Check.raises("14: before", ELEMENT, () -> x.code(-1));
        Check.raises("14: one vertex", ELEMENT, () -> new TreeCodes().code(0));
        Check.raises("14: two vertices", ELEMENT, () -> Texts.of("vertices 2;code;").code(0));
        Check.raises("14: no tree", STATE, () -> Texts.of("vertices 2;").code(-1));
    }

    private static void rank() {
        Check.same("15: one vertex", new TreeCodes().rank(), 0);
        Check.same("15: two vertices", Texts.of("vertices 2;edge 1 0;").rank(), 0);
        Check.same("15: digits", Texts.of("vertices 5;code 4 0 3;").rank(), 4 * 25 + 3);
        Check.same("15: greatest", Texts.of("vertices 10;star 9 0 1 2 3 4 5 6 7 8;").rank(), 99999999);
        Check.same("15: path", Texts.of("vertices 10;path 0 1 2 3 4 5 6 7 8 9;").rank(), 12345678);
        Check.raises("15: no tree", STATE, () -> Texts.of("vertices 3;edge 0 1;").rank());
    }

    private static void sameDegrees() {
        Check.same("16: one vertex", new TreeCodes().sameDegrees(), 1);
        Check.same("16: two vertices", Texts.of("vertices 2;edge 1 0;").sameDegrees(), 1);
        Check.same("16: path", Texts.of("vertices 10;path 0 1 2 3 4 5 6 7 8 9;").sameDegrees(), 40320);
        Check.same("16: star", Texts.of("vertices 10;star 9 0 1 2 3 4 5 6 7 8;").sameDegrees(), 1);
        Check.same("16: mixed", Texts.of("vertices 7;code 0 0 0 1 2;").sameDegrees(), 20);
        Check.raises("16: no tree", STATE, () -> Texts.of("vertices 3;edge 0 1;").sameDegrees());
    }

    private static void writeWord() {
        TreeCodes x = Texts.of(MIXED);
        Check.same("17: first", Texts.word(x, 0), "((())(())()())");
        Check.same("17: second", Texts.word(x, 1), "(())");
        Check.same("17: third", Texts.word(x, 2), "()");
        Check.raises("17: only the new output is there", ELEMENT, () -> x.outputByte(2));
        Check.raises("17: component", INDEX, () -> x.writeWord(3));
        Check.raises("17: negative", INDEX, () -> x.writeWord(-1));
        Check.same("17: output stays", Texts.output(x, 2), "()");
        // two centroids, 1 with two leaves and 2 with a path: the lesser word goes down the deeper side first
        TreeCodes two = Texts.of("vertices 6;star 1 0 3 2;path 2 4 5;");
        Check.same("17: two centroids", Texts.word(two, 0), "(((()))()())");
        TreeCodes ten = Texts.of("vertices 10;path 0 1 2 3 4 5 6 7 8 9;");
        Check.same("17: ten", Texts.word(ten, 0), "(" + "((((()))))" + "(((())))" + ")");
    }

    private static void writeText() {
        TreeCodes x = Texts.of(MIXED);
        String due = "vertices 10;edge 0 1;edge 1 2;edge 2 3;edge 2 5;edge 2 6;edge 3 4;edge 7 8;weight 0 20;weight 9 0;";
        Check.same("18: text", Texts.text(x), due);
        TreeCodes again = Texts.of(due);
        Check.same("18: again", Texts.text(again), due);
        TreeCodes longest = Texts.of("vertices 10;star 9 0 1 2 3 4 5 6 7 8;");
        for (int v = 0; v < 10; v++) {
            longest.setWeight(v, 99);
        }
        Check.same("18: the longest", longest.writeText(), 12 + 9 * 9 + 10 * 12);
        Texts.word(x, 2);
        Check.same("18: replaces", Texts.text(x), due);
    }

    private static void outputByte() {
        TreeCodes x = new TreeCodes();
        x.writeText();
        Check.same("19: first", x.outputByte(0), 'v');
        Check.same("19: last", x.outputByte(10), ';');
        Check.raises("19: beyond", ELEMENT, () -> x.outputByte(11));
        Check.raises("19: before", ELEMENT, () -> x.outputByte(-1));
    }

    private static void symmetries() {
        TreeCodes x = Texts.of(MIXED);
        Check.same("20: first", x.symmetries(0), 4);
        Check.same("20: second", x.symmetries(1), 2);
        Check.same("20: third", x.symmetries(2), 1);
        Check.raises("20: component", INDEX, () -> x.symmetries(3));
        Check.raises("20: negative", INDEX, () -> x.symmetries(-1));
        Check.same("20: star", Texts.of("vertices 10;star 9 0 1 2 3 4 5 6 7 8;").symmetries(0), 362880);
        Check.same("20: double star", Texts.of("vertices 10;star 0 1 2 3 4 9;star 9 5 6 7 8;").symmetries(0), 1152);
        Check.same("20: none", Texts.of("vertices 7;path 0 1 2 3 4 5;edge 2 6;").symmetries(0), 1);
    }

    private static void labellings() {
        TreeCodes x = Texts.of(MIXED);
        Check.same("21: first", x.labellings(0), 1260);
        Check.same("21: second", x.labellings(1), 1);
        Check.same("21: third", x.labellings(2), 1);
        Check.raises("21: component", INDEX, () -> x.labellings(3));
        Check.raises("21: negative", INDEX, () -> x.labellings(-1));
        Check.same("21: star", Texts.of("vertices 10;star 9 0 1 2 3 4 5 6 7 8;").labellings(0), 10);
        Check.same("21: path", Texts.of("vertices 10;path 0 1 2 3 4 5 6 7 8 9;").labellings(0), 1814400);
    }

    private static void withLeaves() {
        TreeCodes x = new TreeCodes();
        Check.same("22: (1, 0)", x.withLeaves(1, 0), 1);
        Check.same("22: (1, 1)", x.withLeaves(1, 1), 0);
        Check.same("22: (1, 10)", x.withLeaves(1, 10), 0);
        Check.same("22: (2, 0)", x.withLeaves(2, 0), 0);
        Check.same("22: (2, 1)", x.withLeaves(2, 1), 0);
        Check.same("22: (2, 2)", x.withLeaves(2, 2), 1);
        Check.same("22: (3, 2)", x.withLeaves(3, 2), 3);
        Check.same("22: (10, 10)", x.withLeaves(10, 10), 0);
        Check.same("22: (10, 9)", x.withLeaves(10, 9), 10);
        Check.same("22: (10, 2)", x.withLeaves(10, 2), 1814400);
        int trees = 1;
        for (int n = 3; n <= 10; n++) {
            int sum = 0;
            for (int leaves = 0; leaves <= 10; leaves++) {
                sum += x.withLeaves(n, leaves);
            }
            trees = (int) Math.round(Math.pow(n, n - 2));
            Check.same("22: all with " + n, sum, trees);
        }
        Check.raises("22: n 0", ARGUMENT, () -> x.withLeaves(0, 2));
        Check.raises("22: n 11", ARGUMENT, () -> x.withLeaves(11, 2));
        Check.raises("22: leaves -1", ARGUMENT, () -> x.withLeaves(3, -1));
        Check.raises("22: leaves 11", ARGUMENT, () -> x.withLeaves(3, 11));
    }

    private static void classes() {
        TreeCodes x = new TreeCodes();
        int[] rooted = {1, 1, 2, 4, 9, 20, 48, 115, 286, 719};
        int[] free = {1, 1, 1, 2, 3, 6, 11, 23, 47, 106};
        for (int n = 10; n >= 1; n--) {
            Check.same("23: free " + n, x.classes(n, false), free[n - 1]);
            Check.same("23: rooted " + n, x.classes(n, true), rooted[n - 1]);
        }
        Check.same("23: rooted, asked first", new TreeCodes().classes(10, true), 719);
        Check.raises("23: 0", ARGUMENT, () -> x.classes(0, true));
        Check.raises("23: 11", ARGUMENT, () -> x.classes(11, false));
        Check.raises("23: -1", ARGUMENT, () -> x.classes(-1, false));
    }

    private static void survey() {
        TreeCodes x = Texts.of("vertices 5;path 0 1 2 3 4;");
        int[] words = {1, 1, 1, 2, 3, 6};
        int[] last = {0, 0, 0, 1};
        int[] diameters = {0, 1, 6, 12 * 3 + 4 * 2, 60 * 4 + 60 * 3 + 5 * 2, 360 * 5 + 720 * 4 + 210 * 3 + 6 * 2};
        for (int n = 6; n >= 1; n--) {
            Check.same("24: words " + n, x.survey(n, 0), words[n - 1]);
            Check.same("24: diameters " + n, x.survey(n, 2), diameters[n - 1]);
            Check.same("24: words again " + n, x.survey(n, 0), words[n - 1]);
        }
        for (int n = 1; n <= 4; n++) {
            Check.same("24: last " + n, x.survey(n, 1), last[n - 1]);
        }
        Check.raises("24: n 0", ARGUMENT, () -> x.survey(0, 0));
        Check.raises("24: n 7", ARGUMENT, () -> x.survey(7, 0));
        Check.raises("24: what 3", ARGUMENT, () -> x.survey(3, 3));
        Check.raises("24: what -1", ARGUMENT, () -> x.survey(3, -1));
        Check.same("24: the forest stays", Texts.text(x), "vertices 5;edge 0 1;edge 1 2;edge 2 3;edge 3 4;");
        Check.same("24: no change", x.forest(8), 0);
    }

    private static void link() {
        TreeCodes x = Texts.of("vertices 4;path 0 1 2;");
        Check.same("25: same", x.link(1, 1), 1);
        Check.same("25: there", x.link(1, 0), 2);
        Check.same("25: cycle", x.link(2, 0), 3);
        Check.same("25: refused", x.account(5), 3);
        Check.same("25: no change", x.forest(8), 0);
        Check.same("25: linked", x.link(3, 0), 0);
        Check.same("25: text", Texts.text(x), "vertices 4;edge 0 1;edge 0 3;edge 1 2;");
        Check.same("25: made", x.account(0), 1);
        Check.same("25: a change", x.forest(8), 1);
        Check.raises("25: a", INDEX, () -> x.link(4, 4));
        Check.raises("25: b", INDEX, () -> x.link(0, -1));
        Check.same("25: exceptions do not count", x.account(5), 3);
    }

    private static void cut() {
        TreeCodes x = Texts.of("vertices 4;path 0 1 2;");
        Check.fails("26: none", x.cut(0, 2));
        Check.fails("26: same", x.cut(1, 1));
        Check.same("26: refused", x.account(6), 2);
        Check.same("26: no change", x.forest(8), 0);
        Check.holds("26: cut", x.cut(2, 1));
        Check.same("26: text", Texts.text(x), "vertices 4;edge 0 1;");
        Check.same("26: made", x.account(1), 1);
        Check.same("26: a change", x.forest(8), 1);
        Check.raises("26: a", INDEX, () -> x.cut(-1, 0));
        Check.raises("26: b", INDEX, () -> x.cut(0, 4));
        Check.same("26: exceptions do not count", x.account(6), 2);
    }

    private static void regraft() {
        TreeCodes x = Texts.of("vertices 7;path 0 1 2 3;edge 4 5;");
        Check.same("27: no edge", x.regraft(0, 2, 5), 1);
        Check.same("27: itself", x.regraft(0, 0, 5), 1);
        Check.same("27: onto itself", x.regraft(1, 2, 1), 2);
        Check.same("27: onto what hangs at it", x.regraft(1, 2, 0), 2);
        Check.same("27: refused", x.account(7), 4);
        Check.same("27: no change", x.forest(8), 0);
        Check.same("27: to another component", x.regraft(2, 1, 5), 0);
        Check.same("27: text", Texts.text(x), "vertices 7;edge 0 1;edge 2 3;edge 2 5;edge 4 5;");
        Check.same("27: to where it was", x.regraft(2, 5, 5), 0);
        Check.same("27: the same text", Texts.text(x), "vertices 7;edge 0 1;edge 2 3;edge 2 5;edge 4 5;");
        Check.same("27: within the component", x.regraft(2, 5, 4), 0);
        Check.same("27: moved", x.distance(3, 4), 2);
        Check.same("27: made", x.account(2), 3);
        Check.same("27: changes", x.forest(8), 3);
        Check.raises("27: vertex", INDEX, () -> x.regraft(7, 0, 0));
        Check.raises("27: from", INDEX, () -> x.regraft(0, 7, 0));
        Check.raises("27: to", INDEX, () -> x.regraft(0, 2, 7));
        Check.same("27: exceptions do not count", x.account(7), 4);
    }

    private static void prune() {
        TreeCodes x = Texts.of("vertices 10;path 0 1 2 3 4 5;edge 6 7;path 2 8 9;");
        Check.same("28: one round", x.prune(1), 4);
        Check.same("28: text", Texts.text(x), "vertices 10;edge 1 2;edge 2 3;edge 2 8;edge 3 4;");
        Check.same("28: rounds", x.prune(9), 4);
        Check.same("28: nothing left", x.prune(2), 0);
        Check.same("28: account", x.account(3), 12);
        Check.same("28: changes", x.forest(8), 3);
        Check.same("28: two rounds", Texts.of("vertices 10;path 0 1 2 3 4 5 6 7 8 9;").prune(2), 4);
        Check.same("28: star", Texts.of("vertices 5;star 2 0 1 3 4;").prune(1), 4);
        Check.raises("28: 0", ARGUMENT, () -> x.prune(0));
        Check.raises("28: 10", ARGUMENT, () -> x.prune(10));
        Check.raises("28: -1", ARGUMENT, () -> x.prune(-1));
        Check.same("28: exceptions do not count", x.account(3), 12);
    }

    private static void swap() {
        TreeCodes x = Texts.of("vertices 6;path 0 1 2 3;edge 1 4;weight 1 5;");
        Check.same("29: neighbors", x.swap(1, 2), 3);
        Check.same("29: text", Texts.text(x), "vertices 6;edge 0 2;edge 1 2;edge 1 3;edge 2 4;weight 1 5;");
        Check.same("29: itself", x.swap(3, 3), 0);
        Check.same("29: alike", x.swap(0, 4), 0);
        Check.same("29: alone", x.swap(5, 2), 3);
        Check.same("29: text behind", Texts.text(x), "vertices 6;edge 0 5;edge 1 3;edge 1 5;edge 4 5;weight 1 5;");
        Check.same("29: changes", x.forest(8), 4);
        Check.raises("29: a", INDEX, () -> x.swap(6, 0));
        Check.raises("29: b", INDEX, () -> x.swap(0, -1));
    }

    private static void setWeight() {
        TreeCodes x = Texts.of("vertices 2;weight 1 7;");
        Check.same("30: former", x.setWeight(1, 0), 7);
        Check.same("30: former 0", x.setWeight(1, 99), 0);
        Check.same("30: weight", x.vertex(1, 1), 99);
        Check.same("30: former 1", x.setWeight(0, 1), 1);
        Check.same("30: changes", x.forest(8), 3);
        Check.raises("30: vertex", INDEX, () -> x.setWeight(2, 100));
        Check.raises("30: 100", ARGUMENT, () -> x.setWeight(0, 100));
        Check.raises("30: -1", ARGUMENT, () -> x.setWeight(0, -1));
        Check.same("30: unchanged", x.forest(5), 100);
        Check.same("30: exceptions are no changes", x.forest(8), 3);
    }

    private static void fromRank() {
        TreeCodes x = Texts.of("vertices 5;edge 0 1;edge 2 3;weight 4 8;");
        Check.same("31: from a forest", x.fromRank(4 * 25 + 3), 4);
        Check.same("31: text", Texts.text(x), "vertices 5;edge 0 2;edge 0 3;edge 1 4;edge 3 4;weight 4 8;");
        Check.same("31: rank", x.rank(), 103);
        Check.same("31: the same", x.fromRank(103), 0);
        Check.same("31: the last", x.fromRank(124), 2);
        Check.same("31: account", x.account(4), 3);
        Check.same("31: changes", x.forest(8), 3);
        Check.raises("31: beyond", ARGUMENT, () -> x.fromRank(125));
        Check.raises("31: before", ARGUMENT, () -> x.fromRank(-1));
        Check.same("31: exceptions do not count", x.account(4), 3);
        Check.same("31: one vertex", new TreeCodes().fromRank(0), 0);
        Check.raises("31: one vertex, 1", ARGUMENT, () -> new TreeCodes().fromRank(1));
        TreeCodes two = Texts.of("vertices 2;");
        Check.same("31: two vertices", two.fromRank(0), 1);
        Check.raises("31: two vertices, 1", ARGUMENT, () -> two.fromRank(1));
        TreeCodes ten = Texts.of("vertices 10;");
        Check.same("31: ten", ten.fromRank(99999999), 9);
        Check.same("31: star", ten.vertex(9, 0), 9);
        Check.raises("31: ten, beyond", ARGUMENT, () -> ten.fromRank(100000000));
    }

    private static void nextTree() {
        TreeCodes x = Texts.of("vertices 4;code 3 2;weight 1 3;");
        Check.same("32: next", x.nextTree(), 15);
        Check.same("32: text", Texts.text(x), "vertices 4;edge 0 3;edge 1 3;edge 2 3;weight 1 3;");
        Check.same("32: last", x.nextTree(), -1);
        Check.same("32: set", x.account(4), 1);
        Check.same("32: refused", x.account(8), 1);
        Check.same("32: changes", x.forest(8), 1);
        x.cut(0, 3);
        Check.same("32: no tree", x.nextTree(), -1);
        Check.same("32: refused again", x.account(8), 2);
        Check.same("32: one vertex", new TreeCodes().nextTree(), -1);
        TreeCodes all = Texts.of("vertices 5;code 0 0 0;");
        for (int rank = 1; rank < 125; rank++) {
            Check.same("32: through all", all.nextTree(), rank);
            Check.same("32: rank", all.rank(), rank);
        }
        Check.same("32: all", all.nextTree(), -1);
    }

    private static void keep() {
        TreeCodes x = Texts.of("vertices 3;edge 0 1;");
        Check.fails("33: first", x.keep(0));
        Check.holds("33: again", x.keep(0));
        Check.fails("33: another", x.keep(2));
        Check.same("33: set", x.forest(7), 5);
        Check.same("33: no change", x.forest(8), 0);
        x.cut(0, 1);
        x.keep(2);
        x.restore(0);
        Check.same("33: former", x.forest(1), 1);
        x.restore(2);
        Check.same("33: replaced", x.forest(1), 0);
        Check.raises("33: 3", ARGUMENT, () -> x.keep(3));
        Check.raises("33: -1", ARGUMENT, () -> x.keep(-1));
    }

    private static void restore() {
        TreeCodes x = Texts.of("vertices 3;edge 0 1;weight 2 4;");
        Check.fails("34: none", x.restore(1));
        Check.same("34: refused", x.account(9), 1);
        Check.same("34: no change", x.forest(8), 0);
        x.keep(1);
        x.fromRank(2);
        x.setWeight(2, 5);
        Check.holds("34: there", x.restore(1));
        Check.same("34: text", Texts.text(x), "vertices 3;edge 0 1;weight 2 4;");
        Check.same("34: a change", x.forest(8), 3);
        Check.holds("34: it stays", x.restore(1));
        Check.same("34: undo", x.undo(), 3);
        x.undo();
        Check.same("34: undone", Texts.text(x), "vertices 3;edge 0 2;edge 1 2;weight 2 5;");
        Check.same("34: snapshot behind undo", x.forest(7), 2);
        Check.raises("34: 3", ARGUMENT, () -> x.restore(3));
        Check.raises("34: -1", ARGUMENT, () -> x.restore(-1));
        Check.same("34: exceptions do not count", x.account(9), 1);
    }

    private static void undo() {
        TreeCodes x = Texts.of("vertices 3;edge 0 1;");
        Check.same("35: nothing", x.undo(), -1);
        for (int i = 1; i <= 11; i++) {
            x.setWeight(0, 10 + i);
        }
        x.link(0, 1);
        x.cut(0, 2);
        for (int left = 7; left >= 0; left--) {
            Check.same("35: undo", x.undo(), left);
            Check.same("35: weight", x.vertex(0, 1), 13 + left);
        }
        Check.same("35: eight are undone", x.undo(), -1);
        Check.same("35: weight stays", x.vertex(0, 1), 13);
        x.link(1, 2);
        x.prune(1);
        x.swap(0, 2);
        Check.same("35: undo swap", x.undo(), 2);
        Check.same("35: undo prune", x.undo(), 1);
        Check.same("35: text", Texts.text(x), "vertices 3;edge 0 1;edge 1 2;weight 0 13;");
        Check.same("35: undo link", x.undo(), 0);
        Check.same("35: text at last", Texts.text(x), "vertices 3;edge 0 1;weight 0 13;");
    }

    private static void account() {
        TreeCodes x = Texts.of("vertices 4;");
        x.link(0, 1);
        x.link(1, 2);
        x.link(0, 2);
        x.cut(0, 1);
        x.cut(0, 1);
        x.cut(0, 2);
        x.regraft(2, 1, 3);
        x.regraft(2, 1, 3);
        x.prune(3);
        x.prune(2);
        x.nextTree();
        x.fromRank(14);
        x.nextTree();
        x.nextTree();
        x.restore(0);
        x.undo();
        int[] due = {2, 1, 1, 5, 2, 1, 2, 1, 2, 1};
        for (int what = 0; what < due.length; what++) {
            Check.same("36: account(" + what + ")", x.account(what), due[what]);
        }
        Check.raises("36: 10", ARGUMENT, () -> x.account(10));
        Check.raises("36: -1", ARGUMENT, () -> x.account(-1));
        Texts.load(x, "vertices 4;");
        for (int what = 0; what < due.length; what++) {
            Check.same("36: loaded, account(" + what + ")", x.account(what), 0);
        }
    }
}
