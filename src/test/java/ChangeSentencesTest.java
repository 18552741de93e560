import java.util.ArrayDeque;
import java.util.Deque;
import java.util.function.Consumer;

/** The sentences of "Accounts" and "Changes" and of promises 25 to 30 and 33 to 36, one after the other. */
public final class ChangeSentencesTest {
    private static final String NOTHING = "0 0 0 0 0 0 0 0 0 0";
    private static final String PATH = "vertices 10;path 0 1 2 3 4 5 6 7 8 9;";
    private static final String STAR = "vertices 10;star 9 0 1 2 3 4 5 6 7 8;";

    public static void main(String[] args) {
        links();
        cuts();
        regrafts();
        prunes();
        swapsAndWeights();
        snapshots();
        past();
        accounts();
        Check.end();
    }

    private static void links() {
        Check.sentence("Promise 25: adds an edge, 0 if it was added", ChangeSentencesTest::linked);
        Check.sentence("Promise 25: 1 a and b are the same", () -> refusals("vertices 10;edge 0 1;", 5,
            new Tried(1, x -> x.link(0, 0)), new Tried(1, x -> x.link(9, 9)), new Tried(1, x -> x.link(5, 5))));
        Check.sentence("Promise 25: 1 with one vertex", () -> refusals("vertices 1;", 5, new Tried(1, x -> x.link(0, 0))));
        Check.sentence("Promise 25: 2 there is this edge", () -> refusals(PATH, 5,
            new Tried(2, x -> x.link(0, 1)), new Tried(2, x -> x.link(1, 0)), new Tried(2, x -> x.link(9, 8))));
        Check.sentence("Promise 25: 3 it would close a cycle", () -> refusals(PATH, 5,
            new Tried(3, x -> x.link(0, 2)), new Tried(3, x -> x.link(2, 0)), new Tried(3, x -> x.link(0, 9))));
    }

    private static void cuts() {
        Check.sentence("Promise 26: takes an edge away, true", ChangeSentencesTest::cutOff);
        Check.sentence("Promise 26: false, there was no such edge", () -> refusals("vertices 10;path 0 1 2;edge 8 9;", 6,
            new Tried(0, x -> x.cut(0, 2) ? 1 : 0), new Tried(0, x -> x.cut(2, 0) ? 1 : 0),
            new Tried(0, x -> x.cut(0, 0) ? 1 : 0), new Tried(0, x -> x.cut(0, 9) ? 1 : 0),
            new Tried(0, x -> x.cut(4, 5) ? 1 : 0), new Tried(0, x -> x.cut(9, 9) ? 1 : 0)));
        Check.sentence("Promise 26: false with one vertex", () -> refusals("vertices 1;", 6, new Tried(0, x -> x.cut(0, 0) ? 1 : 0)));
        Check.sentence("Promise 26: an edge can be cut once", ChangeSentencesTest::cutTwice);
    }

    private static void regrafts() {
        Check.sentence("Promise 27: an edge goes, another one comes", ChangeSentencesTest::regrafted);
        Check.sentence("Promise 27: with all that hangs at it", ChangeSentencesTest::hangsAtIt);
        Check.sentence("Promise 27: to may be from", ChangeSentencesTest::backToFrom);
        Check.sentence("Promise 27: 1 there is no edge between vertex and from", () -> refusals("vertices 7;path 0 1 2 3;edge 4 5;", 7,
            new Tried(1, x -> x.regraft(0, 2, 4)), new Tried(1, x -> x.regraft(0, 4, 6)), new Tried(1, x -> x.regraft(1, 1, 4)),
            new Tried(1, x -> x.regraft(6, 6, 6)), new Tried(1, x -> x.regraft(6, 0, 1))));
        Check.sentence("Promise 27: 2 to would be in the component of vertex", () -> refusals("vertices 7;path 0 1 2 3;edge 4 5;", 7,
            new Tried(2, x -> x.regraft(1, 2, 0)), new Tried(2, x -> x.regraft(1, 0, 3)), new Tried(2, x -> x.regraft(2, 1, 3)),
            new Tried(2, x -> x.regraft(1, 0, 2)), new Tried(2, x -> x.regraft(4, 5, 4)), new Tried(2, x -> x.regraft(1, 2, 1))));
        Check.sentence("Promise 27: 1 ahead of 2", () -> refusals("vertices 4;path 0 1 2 3;", 7,
            new Tried(1, x -> x.regraft(0, 2, 0)), new Tried(1, x -> x.regraft(3, 3, 3)), new Tried(1, x -> x.regraft(0, 3, 1))));
        Check.sentence("Promise 27: one vertex", () -> refusals("vertices 1;", 7, new Tried(1, x -> x.regraft(0, 0, 0))));
    }

    private static void prunes() {
        Check.sentence("Promise 28: all edges that have a leaf at the beginning of the round", ChangeSentencesTest::oneRound);
        Check.sentence("Promise 28: rounds, one after the other", ChangeSentencesTest::manyRounds);
        Check.sentence("Promise 28: a prune that takes everything", ChangeSentencesTest::pruneAll);
        Check.sentence("Promise 28: a prune that takes nothing", ChangeSentencesTest::pruneNothing);
        Check.sentence("Promise 28: weights stay", ChangeSentencesTest::prunedWeights);
    }

    private static void swapsAndWeights() {
        Check.sentence("Promise 29: each gets the edges that the other one had", ChangeSentencesTest::swapped);
        Check.sentence("Promise 29: an edge between both stays", ChangeSentencesTest::swappedNeighbors);
        Check.sentence("Promise 29: weights stay with the numbers", ChangeSentencesTest::swappedWeights);
        Check.sentence("Promise 29: b may be a", ChangeSentencesTest::swappedWithItself);
        Check.sentence("Promise 29: the edges that were not before", ChangeSentencesTest::swappedNew);
        Check.sentence("Promise 30: returns the former weight", ChangeSentencesTest::formerWeights);
        Check.sentence("Promise 30: nothing but the weight", ChangeSentencesTest::weightAlone);
    }

    private static void snapshots() {
        Check.sentence("Promise 33: returns whether there was one", ChangeSentencesTest::kept);
        Check.sentence("Promise 33: in place of the former one", ChangeSentencesTest::keptTwice);
        Check.sentence("Promise 33: the forest with its weights", ChangeSentencesTest::keptAsItWas);
        Check.sentence("Promise 33: no change, no account", ChangeSentencesTest::keepIsNoChange);
        Check.sentence("Promise 34: makes the forest what a snapshot is, true", ChangeSentencesTest::restored);
        Check.sentence("Promise 34: the snapshot stays", ChangeSentencesTest::snapshotStays);
        Check.sentence("Promise 34: false, and it is refused, if there is none", ChangeSentencesTest::neverKept);
    }

    private static void past() {
        Check.sentence("Changes: each kind of call, and its undoing", ChangeSentencesTest::eachKind);
        Check.sentence("Changes: also if nothing differs by them", ChangeSentencesTest::nothingDiffers);
        Check.sentence("Changes: what is refused is no change", ChangeSentencesTest::refusedIsNoChange);
        Check.sentence("Changes: the latest 8 can be undone", ChangeSentencesTest::latestEight);
        Check.sentence("Changes: snapshots stay when changes are undone", ChangeSentencesTest::undoneSnapshots);
        Check.sentence("Promise 35: returns how many can still be undone", ChangeSentencesTest::stillUndone);
        Check.sentence("Promise 35: NONE if there is none to undo", ChangeSentencesTest::moreUndos);
        Check.sentence("Promise 35: changes and undos in turns", ChangeSentencesTest::inTurns);
    }

    private static void accounts() {
        Check.sentence("Promise 36: each kind of call that is done, or refused", ChangeSentencesTest::eachAccount);
        Check.sentence("Promise 36: what is not counted", ChangeSentencesTest::notCounted);
        Check.sentence("Promise 36: they add up", ChangeSentencesTest::addUp);
        Check.sentence("Accounts: since the latest load()", ChangeSentencesTest::sinceLoad);
        Check.sentence("Accounts: undoing does not change them", ChangeSentencesTest::undoneAccounts);
        Check.sentence("Accounts: exceptions do not change them", ChangeSentencesTest::thrownAccounts);
    }

    /** A call with its reason. */
    private record Tried(int due, java.util.function.ToIntFunction<TreeCodes> call) {
    }

    /** Each call is refused: it tells its reason and counts, and nothing else differs. */
    private static void refusals(String text, int account, Tried... all) {
        TreeCodes x = Texts.of(text);
        x.keep(1);
        x.setWeight(0, 33);
        String vertices = Sight.vertices(x);
        for (int i = 0; i < all.length; i++) {
            Check.same("call no. " + i, all[i].call().applyAsInt(x), all[i].due());
            Check.same("vertices behind no. " + i, Sight.vertices(x), vertices);
            Check.same("accounts behind no. " + i, Sight.accounts(x), only(account, i + 1));
            Check.same("changes behind no. " + i, x.forest(8), 1);
            Check.same("snapshots behind no. " + i, x.forest(7), 2);
        }
        Check.same("undo()", x.undo(), 0);
        Check.same("weight", x.vertex(0, 1), 1);
    }

    private static String only(int account, int count) {
        StringBuilder text = new StringBuilder();
        for (int what = 0; what <= 9; what++) {
            text.append(what == 0 ? "" : " ").append(what == account ? count : 0);
        }
        return text.toString();
    }

    private static void textIs(TreeCodes x, String due) {
        Check.same("text", Texts.text(x), due);
    }

    private static void linked() {
        TreeCodes x = Texts.of("vertices 10;");
        for (int v = 1; v < 10; v++) {
            Check.same("link(" + v + ", " + (v - 1) + ")", x.link(v, v - 1), 0);
            Check.same("edges", x.forest(1), v);
            Check.same("made", x.account(0), v);
        }
        textIs(x, Texts.text(Texts.of(PATH)));
        TreeCodes y = Texts.of("vertices 4;edge 0 1;edge 2 3;weight 3 0;");
        Check.same("two components", y.link(3, 0), 0);
        textIs(y, "vertices 4;edge 0 1;edge 0 3;edge 2 3;weight 3 0;");
    }

    private static void cutOff() {
        TreeCodes x = Texts.of(STAR);
        for (int v = 0; v < 9; v++) {
            Check.holds("cut", v % 2 == 0 ? x.cut(v, 9) : x.cut(9, v));
            Check.same("edges", x.forest(1), 8 - v);
            Check.same("made", x.account(1), v + 1);
        }
        TreeCodes y = Texts.of("vertices 4;path 0 1 2 3;weight 3 0;");
        Check.holds("cut(2, 1)", y.cut(2, 1));
        textIs(y, "vertices 4;edge 0 1;edge 2 3;weight 3 0;");
    }

    private static void cutTwice() {
        TreeCodes x = Texts.of("vertices 2;edge 0 1;");
        Check.holds("cut(0, 1)", x.cut(0, 1));
        Check.fails("cut(0, 1) again", x.cut(0, 1));
        Check.fails("cut(1, 0)", x.cut(1, 0));
        Check.same("accounts", Sight.accounts(x), "0 1 0 0 0 0 2 0 0 0");
        x.undo();
        Check.holds("cut(1, 0) behind undo", x.cut(1, 0));
    }

    private static void regrafted() {
        TreeCodes x = Texts.of("vertices 7;path 0 1 2 3;edge 4 5;weight 0 9;");
        Check.same("to another component", x.regraft(0, 1, 4), 0);
        textIs(x, "vertices 7;edge 0 4;edge 1 2;edge 2 3;edge 4 5;weight 0 9;");
        Check.same("to a lone vertex", x.regraft(0, 4, 6), 0);
        textIs(x, "vertices 7;edge 0 6;edge 1 2;edge 2 3;edge 4 5;weight 0 9;");
        Check.same("within its component", x.regraft(1, 2, 3), 0);
        textIs(x, "vertices 7;edge 0 6;edge 1 3;edge 2 3;edge 4 5;weight 0 9;");
        Check.same("accounts", Sight.accounts(x), only(2, 3));
        Check.same("changes", x.forest(8), 3);
    }

    private static void hangsAtIt() {
        TreeCodes x = Texts.of("vertices 10;path 0 1 2 3;star 2 4 5;edge 8 9;");
        Check.same("regraft(2, 1, 9)", x.regraft(2, 1, 9), 0);
        textIs(x, "vertices 10;edge 0 1;edge 2 3;edge 2 4;edge 2 5;edge 2 9;edge 8 9;");
        Check.same("the other way round", x.regraft(9, 2, 0), 0);
        textIs(x, "vertices 10;edge 0 1;edge 0 9;edge 2 3;edge 2 4;edge 2 5;edge 8 9;");
    }

    private static void backToFrom() {
        TreeCodes x = Texts.of("vertices 2;edge 0 1;");
        Check.same("regraft(0, 1, 1)", x.regraft(0, 1, 1), 0);
        Check.same("regraft(1, 0, 0)", x.regraft(1, 0, 0), 0);
        textIs(x, "vertices 2;edge 0 1;");
        Check.same("accounts", Sight.accounts(x), only(2, 2));
        Check.same("changes", x.forest(8), 2);
    }

    private static void oneRound() {
        String[] texts = {"vertices 2;edge 0 1;", "vertices 3;path 0 1 2;", "vertices 4;path 0 1 2 3;", "vertices 5;path 0 1 2 3 4;", STAR,
            "vertices 6;path 0 1 2;star 1 3;edge 4 5;", "vertices 10;star 0 1 2 3 4 9;star 9 5 6 7 8;"};
        int[] due = {1, 2, 2, 2, 9, 4, 8};
        for (int i = 0; i < texts.length; i++) {
            Check.same("prune(1) of " + texts[i], Texts.of(texts[i]).prune(1), due[i]);
        }
        TreeCodes x = Texts.of("vertices 10;path 0 1 2 3 4 5;edge 6 7;path 2 8 9;");
        x.prune(1);
        textIs(x, "vertices 10;edge 1 2;edge 2 3;edge 2 8;edge 3 4;");
    }

    private static void manyRounds() {
        for (int rounds = 1; rounds <= 9; rounds++) {
            TreeCodes x = Texts.of(PATH);
            int due = Math.min(2 * rounds, 9);
            Check.same("prune(" + rounds + ")", x.prune(rounds), due);
            Check.same("edges", x.forest(1), 9 - due);
            Check.same("accounts", Sight.accounts(x), only(3, rounds));
            Check.same("one change", x.forest(8), 1);
            x.undo();
            Check.same("undone", Sight.vertices(x), Sight.vertices(Texts.of(PATH)));
        }
    }

    private static void pruneAll() {
        TreeCodes path = Texts.of(PATH);
        Check.same("four rounds of a path", path.prune(4), 8);
        Check.same("the last edge", path.prune(1), 1);
        TreeCodes x = Texts.of(STAR);
        Check.same("a star", x.prune(9), 9);
        textIs(x, "vertices 10;");
        Check.same("components", x.forest(2), 10);
        Check.same("leaves", x.forest(3), 0);
        Check.same("accounts", Sight.accounts(x), only(3, 9));
        x.undo();
        Check.same("undone", Sight.vertices(x), Sight.vertices(Texts.of(STAR)));
    }

    private static void pruneNothing() {
        TreeCodes x = new TreeCodes();
        Check.same("one vertex", x.prune(9), 0);
        Check.same("accounts", Sight.accounts(x), only(3, 9));
        Check.same("a change", x.forest(8), 1);
        TreeCodes lone = Texts.of("vertices 10;");
        Check.same("ten vertices", lone.prune(1), 0);
        Check.same("ten vertices again", lone.prune(2), 0);
        Check.same("accounts of ten", Sight.accounts(lone), only(3, 3));
        Check.same("two changes", lone.forest(8), 2);
    }

    private static void prunedWeights() {
        TreeCodes x = Texts.of("vertices 3;path 0 1 2;weight 0 0;weight 1 50;weight 2 99;");
        x.prune(1);
        textIs(x, "vertices 3;weight 0 0;weight 1 50;weight 2 99;");
    }

    private static void swapped() {
        TreeCodes x = Texts.of("vertices 7;star 0 1 2;star 3 4 5;");
        Check.same("two components", x.swap(0, 3), 4);
        textIs(x, "vertices 7;edge 0 4;edge 0 5;edge 1 3;edge 2 3;");
        Check.same("with a lone vertex", x.swap(6, 0), 2);
        textIs(x, "vertices 7;edge 1 3;edge 2 3;edge 4 6;edge 5 6;");
        Check.same("back again", x.swap(0, 6), 2);
        textIs(x, "vertices 7;edge 0 4;edge 0 5;edge 1 3;edge 2 3;");
        Check.same("within a component", x.swap(4, 0), 1);
        textIs(x, "vertices 7;edge 0 4;edge 1 3;edge 2 3;edge 4 5;");
        Check.same("changes", x.forest(8), 4);
    }

    private static void swappedNeighbors() {
        TreeCodes x = Texts.of("vertices 2;edge 0 1;");
        Check.same("the only edge", x.swap(0, 1), 0);
        textIs(x, "vertices 2;edge 0 1;");
        TreeCodes y = Texts.of("vertices 5;path 0 1 2 3;edge 1 4;");
        Check.same("in the middle", y.swap(1, 2), 3);
        textIs(y, "vertices 5;edge 0 2;edge 1 2;edge 1 3;edge 2 4;");
        TreeCodes star = Texts.of(STAR);
        Check.same("middle and leaf", star.swap(9, 0), 8);
        Check.same("degree", star.vertex(0, 0), 9);
    }

    private static void swappedWeights() {
        TreeCodes x = Texts.of("vertices 3;edge 0 1;weight 0 5;weight 2 7;");
        Check.same("swap(0, 2)", x.swap(0, 2), 1);
        textIs(x, "vertices 3;edge 1 2;weight 0 5;weight 2 7;");
    }

    private static void swappedWithItself() {
        TreeCodes x = Texts.of(PATH);
        for (int v = 0; v < 10; v++) {
            Check.same("swap(" + v + ", " + v + ")", x.swap(v, v), 0);
        }
        Check.same("vertices", Sight.vertices(x), Sight.vertices(Texts.of(PATH)));
        Check.same("one vertex", new TreeCodes().swap(0, 0), 0);
    }

    private static void swappedNew() {
        TreeCodes x = Texts.of("vertices 6;star 0 1 2 3;");
        Check.same("two leaves", x.swap(1, 2), 0);
        Check.same("two lone vertices", x.swap(4, 5), 0);
        Check.same("a leaf and a lone vertex", x.swap(1, 4), 1);
        Check.same("the middle and a leaf", x.swap(0, 2), 2);
    }

    private static void formerWeights() {
        TreeCodes x = Texts.of("vertices 10;weight 9 42;");
        Check.same("setWeight(9, 0)", x.setWeight(9, 0), 42);
        Check.same("setWeight(9, 99)", x.setWeight(9, 99), 0);
        Check.same("setWeight(9, 99) again", x.setWeight(9, 99), 99);
        Check.same("setWeight(9, 1)", x.setWeight(9, 1), 99);
        Check.same("setWeight(0, 0)", x.setWeight(0, 0), 1);
        Check.same("changes", x.forest(8), 5);
        Check.same("one vertex", new TreeCodes().setWeight(0, 50), 1);
    }

    private static void weightAlone() {
        TreeCodes x = Texts.of("vertices 3;path 0 1 2;");
        x.setWeight(1, 99);
        textIs(x, "vertices 3;edge 0 1;edge 1 2;weight 1 99;");
        Check.same("accounts", Sight.accounts(x), NOTHING);
        x.setWeight(0, 0);
        textIs(x, "vertices 3;edge 0 1;edge 1 2;weight 0 0;weight 1 99;");
    }

    private static void kept() {
        for (int snapshot = 0; snapshot < 3; snapshot++) {
            TreeCodes x = new TreeCodes();
            Check.fails("the first time", x.keep(snapshot));
            Check.holds("the second time", x.keep(snapshot));
            Check.holds("the third time", x.keep(snapshot));
            Check.same("the set", x.forest(7), 1 << snapshot);
            Check.fails("another one", x.keep((snapshot + 1) % 3));
            Texts.load(x, "vertices 2;");
            Check.fails("behind load", x.keep(snapshot));
        }
    }

    private static void keptTwice() {
        TreeCodes x = Texts.of("vertices 3;edge 0 1;");
        x.keep(1);
        x.link(1, 2);
        x.setWeight(2, 5);
        x.keep(1);
        x.prune(1);
        x.setWeight(2, 6);
        x.restore(1);
        textIs(x, "vertices 3;edge 0 1;edge 1 2;weight 2 5;");
        Check.same("the set", x.forest(7), 2);
    }

    private static void keptAsItWas() {
        TreeCodes x = Texts.of("vertices 3;edge 0 1;weight 0 7;");
        x.keep(0);
        x.link(1, 2);
        x.keep(1);
        x.setWeight(0, 8);
        x.keep(2);
        x.cut(0, 1);
        x.restore(0);
        textIs(x, "vertices 3;edge 0 1;weight 0 7;");
        x.restore(2);
        textIs(x, "vertices 3;edge 0 1;edge 1 2;weight 0 8;");
        x.restore(1);
        textIs(x, "vertices 3;edge 0 1;edge 1 2;weight 0 7;");
    }

    private static void keepIsNoChange() {
        TreeCodes x = Texts.of("vertices 3;edge 0 1;");
        x.setWeight(0, 4);
        x.keep(0);
        x.keep(0);
        x.keep(2);
        Check.same("changes", x.forest(8), 1);
        Check.same("accounts", Sight.accounts(x), NOTHING);
        Check.same("undo()", x.undo(), 0);
        textIs(x, "vertices 3;edge 0 1;");
        Check.same("the set behind undo", x.forest(7), 5);
        x.restore(2);
        textIs(x, "vertices 3;edge 0 1;weight 0 4;");
    }

    private static void restored() {
        TreeCodes x = Texts.of("vertices 4;path 0 1 2 3;weight 3 30;");
        x.keep(2);
        x.fromRank(0);
        x.setWeight(3, 0);
        Check.holds("restore(2)", x.restore(2));
        textIs(x, "vertices 4;edge 0 1;edge 1 2;edge 2 3;weight 3 30;");
        Check.same("changes", x.forest(8), 3);
        Check.same("not refused", x.account(9), 0);
        x.undo();
        textIs(x, "vertices 4;edge 0 1;edge 0 2;edge 0 3;weight 3 0;");
    }

    private static void snapshotStays() {
        TreeCodes x = Texts.of("vertices 3;edge 0 1;");
        x.keep(0);
        for (int i = 2; i < 12; i++) {
            Check.holds("restore(0)", x.restore(0));
            textIs(x, "vertices 3;edge 0 1;");
            x.setWeight(2, i);
            x.prune(1);
            Check.same("the set", x.forest(7), 1);
        }
        Check.holds("there is one", x.keep(0));
    }

    private static void neverKept() {
        TreeCodes x = Texts.of("vertices 3;edge 0 1;");
        x.keep(1);
        Check.fails("restore(0)", x.restore(0));
        Check.fails("restore(2)", x.restore(2));
        Check.fails("restore(0) again", x.restore(0));
        Check.same("accounts", Sight.accounts(x), only(9, 3));
        Check.same("changes", x.forest(8), 0);
        textIs(x, "vertices 3;edge 0 1;");
        Check.same("the set", x.forest(7), 2);
        Texts.load(x, "vertices 3;");
        Check.fails("restore(1) behind load", x.restore(1));
    }

    private static final String BEFORE = "vertices 5;path 0 1 2;edge 3 4;weight 1 7;";

    /** Runs a change behind another one; undoing it brings back what was, and the other one is still there. */
    private static void change(String call, Consumer<TreeCodes> made, boolean differs) {
        TreeCodes x = Texts.of(BEFORE);
        x.keep(0);
        x.setWeight(4, 9);
        String before = Sight.vertices(x);
        made.accept(x);
        Check.same("changes behind " + call, x.forest(8), 2);
        Check.same("it differs by " + call, !Sight.vertices(x).equals(before), differs);
        String accounts = Sight.accounts(x);
        Check.same("undo() of " + call, x.undo(), 1);
        Check.same("vertices behind undo() of " + call, Sight.vertices(x), before);
        Check.same("accounts behind undo() of " + call, Sight.accounts(x), accounts);
        Check.same("undo() of the other one", x.undo(), 0);
        Check.same("vertices at last", Sight.vertices(x), Sight.vertices(Texts.of(BEFORE)));
    }

    private static void eachKind() {
        change("link", x -> x.link(0, 3), true);
        change("cut", x -> x.cut(3, 4), true);
        change("regraft", x -> x.regraft(0, 1, 3), true);
        change("prune", x -> x.prune(1), true);
        change("swap", x -> x.swap(1, 3), true);
        change("setWeight", x -> x.setWeight(1, 0), true);
        change("fromRank", x -> x.fromRank(77), true);
        change("restore", x -> x.restore(0), true);
        TreeCodes x = Texts.of("vertices 5;code 1 2 3;weight 0 6;");
        Check.same("nextTree()", x.nextTree(), 39);
        Check.same("changes behind nextTree", x.forest(8), 1);
        Check.same("undo() of nextTree", x.undo(), 0);
        Check.same("rank() behind undo", x.rank(), 38);
        Check.same("weight behind undo", x.vertex(0, 1), 6);
    }

    private static void nothingDiffers() {
        change("regraft to from", x -> x.regraft(3, 4, 4), false);
        change("swap with itself", x -> x.swap(2, 2), false);
        change("swap of two that are alike", x -> x.swap(0, 2), false);
        change("setWeight as it is", x -> x.setWeight(1, 7), false);
        TreeCodes x = Texts.of("vertices 3;");
        x.prune(1);
        x.prune(9);
        Check.same("prune without edges", x.forest(8), 2);
        x.fromRank(1);
        x.fromRank(1);
        Check.same("fromRank as it is", x.forest(8), 4);
        x.keep(1);
        x.restore(1);
        x.restore(1);
        Check.same("restore as it is", x.forest(8), 6);
        Check.same("undo()", x.undo(), 5);
        x.undo();
        x.undo();
        Check.same("the tree is still there", x.rank(), 1);
        x.undo();
        Check.same("no tree any more", x.forest(1), 0);
    }

    private static void refusedIsNoChange() {
        TreeCodes x = Texts.of(BEFORE);
        x.setWeight(0, 8);
        x.link(0, 0);
        x.link(0, 1);
        x.link(0, 2);
        x.cut(0, 2);
        x.regraft(0, 2, 3);
        x.regraft(1, 2, 0);
        x.nextTree();
        x.restore(2);
        Check.same("changes", x.forest(8), 1);
        Check.same("undo()", x.undo(), 0);
        Check.same("vertices", Sight.vertices(x), Sight.vertices(Texts.of(BEFORE)));
        Check.same("accounts", Sight.accounts(x), "0 0 0 0 0 3 1 2 1 1");
    }

    private static void latestEight() {
        for (int changes = 6; changes <= 20; changes++) {
            TreeCodes x = Texts.of("vertices 3;path 0 1 2;");
            for (int i = 1; i <= changes; i++) {
                x.setWeight(0, 10 + i);
            }
            int undone = 0;
            while (undone < 30 && x.undo() >= 0) {
                undone++;
            }
            Check.same("undone", undone, Math.min(changes, 8));
            Check.same("weight", x.vertex(0, 1), changes <= 8 ? 1 : 10 + changes - 8);
        }
    }

    private static void undoneSnapshots() {
        TreeCodes x = Texts.of("vertices 3;path 0 1 2;");
        x.setWeight(0, 5);
        x.keep(0);
        x.cut(0, 1);
        x.keep(2);
        x.restore(0);
        while (x.undo() >= 0) {
            Check.same("the set", x.forest(7), 5);
        }
        textIs(x, "vertices 3;edge 0 1;edge 1 2;");
        x.restore(2);
        textIs(x, "vertices 3;edge 1 2;weight 0 5;");
        x.restore(0);
        textIs(x, "vertices 3;edge 0 1;edge 1 2;weight 0 5;");
        x.keep(0);
        x.undo();
        Check.holds("kept behind undo", x.keep(0));
    }

    private static void stillUndone() {
        TreeCodes x = Texts.of("vertices 4;");
        for (int v = 1; v <= 3; v++) {
            x.link(0, v);
            x.prune(1);
        }
        Check.same("changes", x.forest(8), 6);
        for (int left = 5; left >= 0; left--) {
            Check.same("undo()", x.undo(), left);
            Check.same("forest(8)", x.forest(8), left);
        }
    }

    private static void moreUndos() {
        TreeCodes x = Texts.of(BEFORE);
        Check.same("no change", x.undo(), -1);
        x.cut(0, 1);
        Check.same("one change", x.undo(), 0);
        String before = Sight.now(x);
        for (int i = 0; i < 10; i++) {
            Check.same("undo() too many", x.undo(), -1);
        }
        Check.same("all that can be seen", Sight.now(x), before);
        x.cut(1, 2);
        Check.same("a change behind it", x.forest(8), 1);
        Check.same("undo() of it", x.undo(), 0);
        Check.same("vertices", Sight.vertices(x), Sight.vertices(Texts.of(BEFORE)));
        Check.same("a new object", new TreeCodes().undo(), -1);
    }

    /** Changes and undos in runs of all lengths, beside a stack that loses its oldest. */
    private static void inTurns() {
        Luck luck = new Luck(35);
        for (int run = 0; run < 40; run++) {
            TreeCodes x = new TreeCodes();
            Deque<Integer> stack = new ArrayDeque<>();
            for (int i = 0; i < 120; i++) {
                if (luck.below(run % 4 + 4) < 3) {
                    int due = stack.isEmpty() ? x.vertex(0, 1) : stack.peekLast();
                    Check.same("undo()", x.undo(), stack.isEmpty() ? -1 : stack.size() - 1);
                    stack.pollLast();
                    Check.same("weight behind undo", x.vertex(0, 1), due);
                } else {
                    stack.addLast(x.setWeight(0, i % 100));
                    if (stack.size() > 8) {
                        stack.removeFirst();
                    }
                    Check.same("forest(8)", x.forest(8), stack.size());
                }
            }
        }
    }

    private static void counts(String call, Consumer<TreeCodes> made, String text, String due) {
        TreeCodes x = Texts.of(text);
        made.accept(x);
        Check.same("accounts behind " + call, Sight.accounts(x), due);
    }

    private static void eachAccount() {
        counts("link", x -> x.link(0, 3), BEFORE, only(0, 1));
        counts("cut", x -> x.cut(3, 4), BEFORE, only(1, 1));
        counts("regraft", x -> x.regraft(0, 1, 3), BEFORE, only(2, 1));
        counts("regraft to from", x -> x.regraft(0, 1, 1), BEFORE, only(2, 1));
        for (int rounds = 1; rounds <= 9; rounds++) {
            int told = rounds;
            counts("prune(" + rounds + ")", x -> x.prune(told), BEFORE, only(3, rounds));
        }
        counts("fromRank", x -> x.fromRank(124), BEFORE, only(4, 1));
        counts("nextTree", x -> x.nextTree(), "vertices 3;code 1;", only(4, 1));
        counts("link, 1", x -> x.link(3, 3), BEFORE, only(5, 1));
        counts("link, 2", x -> x.link(4, 3), BEFORE, only(5, 1));
        counts("link, 3", x -> x.link(2, 0), BEFORE, only(5, 1));
        counts("cut, refused", x -> x.cut(0, 2), BEFORE, only(6, 1));
        counts("regraft, 1", x -> x.regraft(0, 2, 3), BEFORE, only(7, 1));
        counts("regraft, 2", x -> x.regraft(1, 2, 0), BEFORE, only(7, 1));
        counts("nextTree of no tree", x -> x.nextTree(), BEFORE, only(8, 1));
        counts("nextTree of the last tree", x -> x.nextTree(), "vertices 3;code 2;", only(8, 1));
        counts("restore, refused", x -> x.restore(1), BEFORE, only(9, 1));
    }

    private static void notCounted() {
        counts("swap", x -> x.swap(0, 3), BEFORE, NOTHING);
        counts("setWeight", x -> x.setWeight(0, 3), BEFORE, NOTHING);
        counts("keep", x -> x.keep(0), BEFORE, NOTHING);
        counts("undo", x -> x.undo(), BEFORE, NOTHING);
        counts("writeText", x -> x.writeText(), BEFORE, NOTHING);
        counts("writeWord", x -> x.writeWord(1), BEFORE, NOTHING);
        counts("survey", x -> x.survey(4, 0), BEFORE, NOTHING);
        TreeCodes x = Texts.of(BEFORE);
        x.keep(0);
        x.restore(0);
        Check.same("accounts behind restore", Sight.accounts(x), NOTHING);
    }

    private static void addUp() {
        TreeCodes x = Texts.of("vertices 4;");
        for (int i = 1; i <= 20; i++) {
            x.link(0, 1);
            x.link(1, 1);
            x.cut(1, 0);
            x.cut(1, 0);
            x.prune(1 + i % 9);
            x.restore(2);
        }
        int rounds = 20;
        for (int i = 1; i <= 20; i++) {
            rounds += i % 9;
        }
        Check.same("accounts", Sight.accounts(x), "20 20 0 " + rounds + " 0 20 20 0 0 20");
    }

    private static void sinceLoad() {
        TreeCodes x = Used.tree();
        String before = Sight.accounts(x);
        Texts.replace(x, "vertices 3;edge");
        Check.same("behind an error", Sight.accounts(x), before);
        Texts.replace(x, "vertices 3;");
        Check.same("behind a load", Sight.accounts(x), NOTHING);
        x.link(0, 1);
        x.nextTree();
        Check.same("counted again", Sight.accounts(x), "1 0 0 0 0 0 0 0 1 0");
        Texts.replace(x, "vertices 3;");
        Check.same("behind another load", Sight.accounts(x), NOTHING);
    }

    private static void undoneAccounts() {
        TreeCodes x = Used.tree();
        String before = Sight.accounts(x);
        for (int i = 0; i < 12; i++) {
            x.undo();
            Check.same("behind undo no. " + i, Sight.accounts(x), before);
        }
    }

    private static void thrownAccounts() {
        TreeCodes x = Texts.of(BEFORE);
        Check.raises("link", IndexOutOfBoundsException.class, () -> x.link(5, 5));
        Check.raises("cut", IndexOutOfBoundsException.class, () -> x.cut(0, 5));
        Check.raises("regraft", IndexOutOfBoundsException.class, () -> x.regraft(0, 1, 5));
        Check.raises("prune", IllegalArgumentException.class, () -> x.prune(10));
        Check.raises("fromRank", IllegalArgumentException.class, () -> x.fromRank(125));
        Check.raises("restore", IllegalArgumentException.class, () -> x.restore(3));
        Check.same("accounts", Sight.accounts(x), NOTHING);
    }
}
