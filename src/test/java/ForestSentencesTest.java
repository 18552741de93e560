import java.util.NoSuchElementException;

/** The sentences of "Forests" and "Pruning" and of promises 6 to 13, one after the other. */
public final class ForestSentencesTest {
    private static final Class<?> ELEMENT = NoSuchElementException.class;

    private static final String LONE = "vertices 10;";
    private static final String PATH = "vertices 10;path 0 1 2 3 4 5 6 7 8 9;";
    private static final String STAR = "vertices 10;star 9 0 1 2 3 4 5 6 7 8;";
    private static final String TWO_STARS = "vertices 10;star 0 1 2 3 4 9;star 9 5 6 7 8;";

    /** A spider 0-1-2-3-4 with 5 and 6 at 2, the edge 7-8, and 9 alone. */
    private static final String MIXED = "vertices 10;path 0 1 2 3 4;star 2 5 6;edge 8 7;weight 0 20;weight 9 0;";

    /** The components 0-6, 5-1-3 and 2-4, which the least vertices put into this order. */
    private static final String WOVEN = "vertices 7;path 5 1 3;edge 4 2;edge 6 0;";

    public static void main(String[] args) {
        forests();
        vertices();
        components();
        ways();
        means();
        Check.end();
    }

    private static void forests() {
        Check.sentence("Promise 6: 0 the vertices", () -> each(0, 1, 2, 10, 10, 10, 10, 7));
        Check.sentence("Promise 6: 1 the edges", () -> each(1, 0, 1, 0, 9, 9, 7, 4));
        Check.sentence("Promise 6: 2 the components", () -> each(2, 1, 1, 10, 1, 1, 3, 3));
        Check.sentence("Promise 6: 3 the leaves", () -> each(3, 0, 2, 0, 2, 9, 6, 6));
        Check.sentence("Promise 6: 4 the vertices without edges", () -> each(4, 1, 0, 10, 0, 0, 1, 0));
        Check.sentence("Promise 6: 5 the sum of all weights", ForestSentencesTest::sums);
        Check.sentence("Promise 6: 6 the classes of components", ForestSentencesTest::classes);
        Check.sentence("Promise 6: 7 the set of the snapshots that are kept", ForestSentencesTest::snapshots);
        Check.sentence("Promise 6: 8 the changes that can be undone", ForestSentencesTest::changes);
        Check.sentence("Promise 6: NONE for any other what", ForestSentencesTest::otherWhat);
        Check.sentence("Promises 6 to 13: asking changes nothing", ForestSentencesTest::askingChangesNothing);
    }

    private static void vertices() {
        Check.sentence("Promise 7: 0 its degree", ForestSentencesTest::degrees);
        Check.sentence("Promise 7: 1 its weight", ForestSentencesTest::weights);
        Check.sentence("Promise 7: 2 the number of its component", ForestSentencesTest::componentNumbers);
        Check.sentence("Promise 7: 3 the size of its component", ForestSentencesTest::componentSizes);
        Check.sentence("Promise 7: 4 its eccentricity", ForestSentencesTest::eccentricities);
        Check.sentence("Promise 7: 5 its round", ForestSentencesTest::rounds);
        Check.sentence("Promise 7: 5 its round, the forest as it is", ForestSentencesTest::roundsBehindPruning);
        Check.sentence("Promise 7: 6 the set of its neighbors", ForestSentencesTest::neighbors);
        Check.sentence("Promise 7: 7 its orbit", ForestSentencesTest::orbits);
    }

    private static void components() {
        Check.sentence("Promise 8: components in the order of their least vertices", ForestSentencesTest::order);
        Check.sentence("Promise 8: 0 the set of its vertices", ForestSentencesTest::sets);
        Check.sentence("Promise 8: 1 its diameter", ForestSentencesTest::diameters);
        Check.sentence("Promise 8: 2 the set of its centers", ForestSentencesTest::centers);
        Check.sentence("Promise 8: 3 of its centroids", ForestSentencesTest::centroids);
        Check.sentence("Promise 8: 4 of its weighted centroids", ForestSentencesTest::weightedCentroids);
        Check.sentence("Promise 8: 5 its class", ForestSentencesTest::componentClasses);
        Check.sentence("Promise 8: 6 how many leaves it has", ForestSentencesTest::componentLeaves);
    }

    private static void ways() {
        Check.sentence("Promise 9: their distance", ForestSentencesTest::distances);
        Check.sentence("Promise 9: NONE if they are in different components", ForestSentencesTest::distancesApart);
        Check.sentence("Promise 10: the vertex that has this distance from a", ForestSentencesTest::steps);
        Check.sentence("Promise 10: step is not 0 to the length of the path", ForestSentencesTest::noSteps);
        Check.sentence("Promise 10: there is no path", ForestSentencesTest::noPath);
        Check.sentence("Promise 11: the vertex that lies on all three paths", ForestSentencesTest::medians);
        Check.sentence("Promise 11: they are not in one component", ForestSentencesTest::noMedian);
    }

    private static void means() {
        Check.sentence("Promise 12: sum of distances by the size of the component", ForestSentencesTest::meanDistances);
        Check.sentence("Promise 13: greatest part by the size of the component", ForestSentencesTest::balances);
        Check.sentence("Promise 13: 0.0f without parts", ForestSentencesTest::noParts);
    }

    private static void each(int what, int... due) {
        String[] texts = {"vertices 1;", "vertices 2;edge 0 1;", LONE, PATH, STAR, MIXED, WOVEN};
        for (int i = 0; i < texts.length; i++) {
            Check.same("forest(" + what + ") of " + texts[i], Texts.of(texts[i]).forest(what), due[i]);
        }
    }

    private static void sums() {
        each(5, 1, 2, 10, 10, 10, 28, 7);
        TreeCodes x = Texts.of(LONE);
        for (int v = 0; v < 10; v++) {
            x.setWeight(v, 99);
            Check.same("the sum", x.forest(5), 10 + 98 * (v + 1));
        }
        for (int v = 0; v < 10; v++) {
            x.setWeight(v, 0);
        }
        Check.same("no weight", x.forest(5), 0);
    }

    private static void classes() {
        each(6, 1, 1, 1, 1, 1, 3, 2);
        Check.same("1, 2, 3 and 4 vertices", Texts.of("vertices 10;edge 1 2;path 3 4 5;path 6 7 8 9;").forest(6), 4);
        Check.same("path and star of 4", Texts.of("vertices 8;path 0 1 2 3;star 4 5 6 7;").forest(6), 2);
        Check.same("two paths of 4, woven", Texts.of("vertices 8;path 0 2 4 6;path 5 1 3 7;").forest(6), 1);
        Check.same("weights do not matter", Texts.of("vertices 4;edge 0 1;edge 2 3;weight 0 9;").forest(6), 1);
        TreeCodes x = Texts.of(LONE);
        x.link(0, 1);
        Check.same("linked", x.forest(6), 2);
        x.link(2, 3);
        Check.same("linked again", x.forest(6), 2);
        x.undo();
        x.undo();
        Check.same("undone", x.forest(6), 1);
    }

    private static void snapshots() {
        for (int set = 0; set < 8; set++) {
            TreeCodes x = new TreeCodes();
            for (int snapshot = 2; snapshot >= 0; snapshot--) {
                if ((set >> snapshot & 1) == 1) {
                    x.keep(snapshot);
                }
            }
            Check.same("forest(7)", x.forest(7), set);
            x.restore(0);
            x.undo();
            Check.same("forest(7) behind restore and undo", x.forest(7), set);
            Texts.load(x, "vertices 2;");
            Check.same("forest(7) behind load", x.forest(7), 0);
        }
    }

    private static void changes() {
        TreeCodes x = Texts.of("vertices 3;");
        for (int i = 1; i <= 12; i++) {
            x.setWeight(i % 3, i);
            Check.same("forest(8)", x.forest(8), Math.min(i, 8));
        }
        for (int left = 7; left >= 0; left--) {
            x.undo();
            Check.same("forest(8) behind undo", x.forest(8), left);
        }
        x.undo();
        Check.same("forest(8) behind an undo too many", x.forest(8), 0);
        x.link(0, 1);
        Check.same("forest(8) behind a change", x.forest(8), 1);
        Texts.load(x, "vertices 3;");
        Check.same("forest(8) behind load", x.forest(8), 0);
    }

    private static void otherWhat() {
        TreeCodes x = Used.forest();
        int[] others = {-1, -2, -8, 9, 10, 16, 32, 256, Integer.MIN_VALUE, Integer.MIN_VALUE + 8, Integer.MAX_VALUE};
        for (int what : others) {
            Check.same("forest(" + what + ")", x.forest(what), -1);
        }
    }

    private static void askingChangesNothing() {
        TreeCodes x = Used.tree();
        for (int v = 0; v < 6; v++) {
            for (int what = 0; what <= 7; what++) {
                x.vertex(v, what);
            }
            x.distance(v, 5 - v);
            x.onPath(v, 0, v);
            x.median(v, 0, 5);
            x.meanDistance(v);
            x.balance(v);
        }
        for (int what = 0; what <= 6; what++) {
            x.component(0, what);
        }
        Check.same("all that can be seen", Sight.now(x), Sight.now(Used.tree()));
        Check.same("the past", Sight.past(x), Sight.past(Used.tree()));
    }

    private static String ofVertices(TreeCodes x, int what) {
        StringBuilder row = new StringBuilder();
        for (int v = 0; v < x.forest(0); v++) {
            row.append(v == 0 ? "" : " ").append(x.vertex(v, what));
        }
        return row.toString();
    }

    private static void vertexRow(String text, int what, String due) {
        Check.same("vertex(.., " + what + ") of " + text, ofVertices(Texts.of(text), what), due);
    }

    private static void degrees() {
        vertexRow("vertices 1;", 0, "0");
        vertexRow("vertices 2;edge 0 1;", 0, "1 1");
        vertexRow(LONE, 0, "0 0 0 0 0 0 0 0 0 0");
        vertexRow(PATH, 0, "1 2 2 2 2 2 2 2 2 1");
        vertexRow(STAR, 0, "1 1 1 1 1 1 1 1 1 9");
        vertexRow(MIXED, 0, "1 2 4 2 1 1 1 1 1 0");
    }

    private static void weights() {
        vertexRow("vertices 1;", 1, "1");
        vertexRow(LONE, 1, "1 1 1 1 1 1 1 1 1 1");
        vertexRow(MIXED, 1, "20 1 1 1 1 1 1 1 1 0");
        vertexRow("vertices 10;weight 9 99;weight 0 0;", 1, "0 1 1 1 1 1 1 1 1 99");
    }

    private static void componentNumbers() {
        vertexRow("vertices 1;", 2, "0");
        vertexRow(LONE, 2, "0 1 2 3 4 5 6 7 8 9");
        vertexRow(PATH, 2, "0 0 0 0 0 0 0 0 0 0");
        vertexRow(MIXED, 2, "0 0 0 0 0 0 0 1 1 2");
        vertexRow(WOVEN, 2, "0 1 2 1 2 1 0");
        TreeCodes x = Texts.of(WOVEN);
        x.link(6, 3);
        Check.same("linked", ofVertices(x, 2), "0 0 1 0 1 0 0");
        x.cut(5, 1);
        Check.same("cut", ofVertices(x, 2), "0 0 1 0 1 2 0");
    }

    private static void componentSizes() {
        vertexRow("vertices 1;", 3, "1");
        vertexRow(LONE, 3, "1 1 1 1 1 1 1 1 1 1");
        vertexRow(STAR, 3, "10 10 10 10 10 10 10 10 10 10");
        vertexRow(MIXED, 3, "7 7 7 7 7 7 7 2 2 1");
        vertexRow(WOVEN, 3, "2 3 2 3 2 3 2");
    }

    private static void eccentricities() {
        vertexRow("vertices 1;", 4, "0");
        vertexRow("vertices 2;edge 0 1;", 4, "1 1");
        vertexRow(LONE, 4, "0 0 0 0 0 0 0 0 0 0");
        vertexRow(PATH, 4, "9 8 7 6 5 5 6 7 8 9");
        vertexRow(STAR, 4, "2 2 2 2 2 2 2 2 2 1");
        vertexRow(MIXED, 4, "4 3 2 3 4 3 3 1 1 0");
    }

    private static void rounds() {
        vertexRow("vertices 1;", 5, "0");
        vertexRow("vertices 2;edge 0 1;", 5, "1 1");
        vertexRow("vertices 3;path 0 1 2;", 5, "1 1 1");
        vertexRow("vertices 4;path 0 1 2 3;", 5, "1 2 2 1");
        vertexRow(LONE, 5, "0 0 0 0 0 0 0 0 0 0");
        vertexRow(PATH, 5, "1 2 3 4 5 5 4 3 2 1");
        vertexRow("vertices 9;path 0 1 2 3 4 5 6 7 8;", 5, "1 2 3 4 4 4 3 2 1");
        vertexRow(STAR, 5, "1 1 1 1 1 1 1 1 1 1");
        vertexRow(TWO_STARS, 5, "2 1 1 1 1 1 1 1 1 2");
        vertexRow(MIXED, 5, "1 2 2 2 1 1 1 1 1 0");
    }

    private static void roundsBehindPruning() {
        TreeCodes x = Texts.of(PATH);
        x.prune(1);
        Check.same("behind one round", ofVertices(x, 5), "0 1 2 3 4 4 3 2 1 0");
        x.prune(3);
        Check.same("behind four rounds", ofVertices(x, 5), "0 0 0 0 1 1 0 0 0 0");
        x.prune(1);
        Check.same("behind five rounds", ofVertices(x, 5), "0 0 0 0 0 0 0 0 0 0");
    }

    private static void neighbors() {
        vertexRow("vertices 1;", 6, "0");
        vertexRow("vertices 2;edge 0 1;", 6, "2 1");
        vertexRow(LONE, 6, "0 0 0 0 0 0 0 0 0 0");
        vertexRow(PATH, 6, "2 5 10 20 40 80 160 320 640 256");
        vertexRow(STAR, 6, "512 512 512 512 512 512 512 512 512 511");
        vertexRow(WOVEN, 6, "64 40 16 2 4 2 1");
    }

    private static void orbits() {
        vertexRow("vertices 1;", 7, "1");
        vertexRow("vertices 2;edge 0 1;", 7, "3 3");
        vertexRow("vertices 2;", 7, "1 2");
        vertexRow(LONE, 7, "1 2 4 8 16 32 64 128 256 512");
        vertexRow(PATH, 7, "513 258 132 72 48 48 72 132 258 513");
        vertexRow(STAR, 7, "511 511 511 511 511 511 511 511 511 512");
        vertexRow(TWO_STARS, 7, "513 510 510 510 510 510 510 510 510 513");
        vertexRow(WOVEN, 7, "65 2 20 40 20 40 65");
        // the arms 1, 2-3 and 4-5-6 of a spider differ, so each vertex stays where it is
        vertexRow("vertices 7;path 1 0 2 3;path 0 4 5 6;", 7, "1 2 4 8 16 32 64");
        vertexRow("vertices 4;path 0 1 2 3;weight 0 9;", 7, "9 6 6 9");
    }

    private static String ofComponents(TreeCodes x, int what) {
        StringBuilder row = new StringBuilder();
        for (int c = 0; c < x.forest(2); c++) {
            row.append(c == 0 ? "" : " ").append(x.component(c, what));
        }
        return row.toString();
    }

    private static void componentRow(String text, int what, String due) {
        Check.same("component(.., " + what + ") of " + text, ofComponents(Texts.of(text), what), due);
    }

    private static void order() {
        componentRow(WOVEN, 0, "65 42 20");
        componentRow("vertices 10;path 9 8 0;edge 7 1;edge 6 2;", 0, "769 130 68 8 16 32");
        TreeCodes x = Texts.of("vertices 4;edge 0 3;");
        Check.same("loaded", ofComponents(x, 0), "9 2 4");
        x.cut(3, 0);
        Check.same("cut", ofComponents(x, 0), "1 2 4 8");
        x.link(3, 1);
        Check.same("linked", ofComponents(x, 0), "1 10 4");
        x.swap(0, 1);
        Check.same("exchanged", ofComponents(x, 0), "9 2 4");
    }

    private static void sets() {
        componentRow("vertices 1;", 0, "1");
        componentRow("vertices 2;edge 0 1;", 0, "3");
        componentRow(LONE, 0, "1 2 4 8 16 32 64 128 256 512");
        componentRow(PATH, 0, "1023");
        componentRow(MIXED, 0, "127 384 512");
    }

    private static void diameters() {
        componentRow("vertices 1;", 1, "0");
        componentRow("vertices 2;edge 0 1;", 1, "1");
        componentRow(LONE, 1, "0 0 0 0 0 0 0 0 0 0");
        componentRow(PATH, 1, "9");
        componentRow(STAR, 1, "2");
        componentRow(TWO_STARS, 1, "3");
        componentRow(MIXED, 1, "4 1 0");
    }

    private static void centers() {
        componentRow("vertices 1;", 2, "1");
        componentRow("vertices 2;edge 0 1;", 2, "3");
        componentRow("vertices 3;path 0 2 1;", 2, "4");
        componentRow(LONE, 2, "1 2 4 8 16 32 64 128 256 512");
        componentRow(PATH, 2, "48");
        componentRow(STAR, 2, "512");
        componentRow(MIXED, 2, "4 384 512");
        // a broom: the bristles pull the centroid, not the center
        componentRow("vertices 8;path 0 1 2 3 4;star 4 5 6 7;weight 0 99;", 2, "12");
    }

    private static void centroids() {
        componentRow("vertices 1;", 3, "1");
        componentRow("vertices 2;edge 0 1;", 3, "3");
        componentRow("vertices 3;path 0 2 1;", 3, "4");
        componentRow(LONE, 3, "1 2 4 8 16 32 64 128 256 512");
        componentRow(PATH, 3, "48");
        componentRow(STAR, 3, "512");
        componentRow(TWO_STARS, 3, "513");
        componentRow("vertices 10;star 0 1 2 3 4 5 9;star 9 6 7 8;", 3, "1");
        componentRow("vertices 8;path 0 1 2 3 4;star 4 5 6 7;weight 0 99;", 3, "24");
    }

    private static void weightedCentroids() {
        componentRow("vertices 1;weight 0 0;", 4, "1");
        componentRow("vertices 2;edge 0 1;weight 0 5;", 4, "1");
        componentRow("vertices 2;edge 0 1;weight 0 5;weight 1 5;", 4, "3");
        componentRow("vertices 3;path 0 1 2;weight 0 10;", 4, "1");
        componentRow("vertices 3;path 0 1 2;weight 0 2;", 4, "3");
        componentRow("vertices 3;path 0 1 2;weight 0 0;weight 1 0;weight 2 0;", 4, "7");
        componentRow("vertices 5;path 0 1 2 3 4;weight 0 3;weight 1 0;weight 2 0;weight 3 0;weight 4 3;", 4, "31");
        componentRow("vertices 5;star 0 1 2 3 4;weight 0 0;weight 1 99;weight 2 99;weight 3 99;weight 4 99;", 4, "1");
        componentRow("vertices 4;edge 0 1;edge 2 3;weight 3 50;", 4, "3 8");
        componentRow(MIXED, 4, "1 384 512");
        TreeCodes x = Texts.of(PATH);
        Check.same("all weights 1", x.component(0, 4), 48);
        x.setWeight(0, 99);
        Check.same("a heavy end", x.component(0, 4), 1);
        x.setWeight(9, 99);
        Check.same("two heavy ends", x.component(0, 4), 48);
        x.setWeight(9, 98);
        Check.same("two heavy ends, one heavier", x.component(0, 4), 16);
    }

    private static void componentClasses() {
        componentRow("vertices 1;", 5, "0");
        componentRow(LONE, 5, "0 0 0 0 0 0 0 0 0 0");
        componentRow(MIXED, 5, "0 1 2");
        componentRow(WOVEN, 5, "0 1 0");
        componentRow("vertices 10;edge 1 2;path 3 4 5;edge 6 7;", 5, "0 1 2 1 0 0");
        componentRow("vertices 10;path 0 1 2;edge 4 5;path 8 9 7;", 5, "0 1 2 1 0");
        componentRow("vertices 8;star 0 1 2 3;path 4 5 6 7;", 5, "0 1");
    }

    private static void componentLeaves() {
        componentRow("vertices 1;", 6, "0");
        componentRow("vertices 2;edge 0 1;", 6, "2");
        componentRow(LONE, 6, "0 0 0 0 0 0 0 0 0 0");
        componentRow(STAR, 6, "9");
        componentRow(TWO_STARS, 6, "8");
        componentRow(MIXED, 6, "4 2 0");
    }

    private static void distances() {
        Check.same("one vertex", new TreeCodes().distance(0, 0), 0);
        TreeCodes x = Texts.of(PATH);
        for (int a = 0; a < 10; a++) {
            for (int b = 0; b < 10; b++) {
                Check.same("distance(" + a + ", " + b + ")", x.distance(a, b), Math.abs(a - b));
            }
        }
        TreeCodes star = Texts.of(STAR);
        Check.same("leaf to leaf", star.distance(0, 8), 2);
        Check.same("leaf to middle", star.distance(8, 9), 1);
    }

    private static void distancesApart() {
        TreeCodes lone = Texts.of(LONE);
        for (int a = 0; a < 10; a++) {
            for (int b = 0; b < 10; b++) {
                Check.same("distance(" + a + ", " + b + ") alone", lone.distance(a, b), a == b ? 0 : -1);
            }
        }
        TreeCodes x = Texts.of(MIXED);
        Check.same("distance(0, 7)", x.distance(0, 7), -1);
        Check.same("distance(8, 4)", x.distance(8, 4), -1);
        x.link(4, 7);
        Check.same("distance(0, 8), linked", x.distance(0, 8), 6);
        x.cut(2, 3);
        Check.same("distance(0, 8), cut", x.distance(0, 8), -1);
    }

    private static void steps() {
        Check.same("one vertex", new TreeCodes().onPath(0, 0, 0), 0);
        TreeCodes x = Texts.of(PATH);
        for (int step = 0; step <= 9; step++) {
            Check.same("from 0 to 9", x.onPath(0, 9, step), step);
            Check.same("from 9 to 0", x.onPath(9, 0, step), 9 - step);
            Check.same("from " + step + " to itself", x.onPath(step, step, 0), step);
        }
        TreeCodes mixed = Texts.of(MIXED);
        Check.same("onPath(5, 4, 0)", mixed.onPath(5, 4, 0), 5);
        Check.same("onPath(5, 4, 1)", mixed.onPath(5, 4, 1), 2);
        Check.same("onPath(5, 4, 2)", mixed.onPath(5, 4, 2), 3);
        Check.same("onPath(5, 4, 3)", mixed.onPath(5, 4, 3), 4);
    }

    private static void noSteps() {
        TreeCodes x = Texts.of(PATH);
        int[] steps = {-1, -2, 10, 11, 32, Integer.MIN_VALUE, Integer.MAX_VALUE};
        for (int step : steps) {
            Check.raises("onPath(0, 9, " + step + ")", ELEMENT, () -> x.onPath(0, 9, step));
            Check.raises("onPath(0, 0, " + step + ")", ELEMENT, () -> x.onPath(0, 0, step));
        }
        Check.raises("onPath(0, 8, 9)", ELEMENT, () -> x.onPath(0, 8, 9));
        Check.raises("onPath(3, 3, 1)", ELEMENT, () -> x.onPath(3, 3, 1));
        Check.raises("one vertex", ELEMENT, () -> new TreeCodes().onPath(0, 0, 1));
    }

    private static void noPath() {
        TreeCodes x = Texts.of(MIXED);
        for (int step = -1; step <= 3; step++) {
            int tried = step;
            Check.raises("onPath(0, 7, " + step + ")", ELEMENT, () -> x.onPath(0, 7, tried));
            Check.raises("onPath(9, 0, " + step + ")", ELEMENT, () -> x.onPath(9, 0, tried));
        }
    }

    private static void medians() {
        Check.same("one vertex", new TreeCodes().median(0, 0, 0), 0);
        TreeCodes path = Texts.of(PATH);
        int[][] orders = {{2, 5, 8}, {2, 8, 5}, {5, 2, 8}, {5, 8, 2}, {8, 2, 5}, {8, 5, 2}};
        for (int[] three : orders) {
            Check.same("on a path", path.median(three[0], three[1], three[2]), 5);
        }
        Check.same("the ends and itself", path.median(0, 9, 9), 9);
        Check.same("two the same", path.median(3, 3, 9), 3);
        Check.same("two the same, apart", path.median(3, 9, 3), 3);
        Check.same("all the same", path.median(4, 4, 4), 4);
        Check.same("three leaves of a star", Texts.of(STAR).median(0, 4, 8), 9);
        TreeCodes spider = Texts.of("vertices 10;path 0 1 2 3;path 0 4 5 6;path 0 7 8 9;");
        Check.same("three ends", spider.median(3, 6, 9), 0);
        Check.same("two on one arm", spider.median(3, 2, 9), 2);
        Check.same("with the middle", spider.median(3, 0, 9), 0);
    }

    private static void noMedian() {
        TreeCodes x = Texts.of(MIXED);
        int[][] apart = {{0, 1, 7}, {0, 7, 1}, {7, 0, 1}, {0, 7, 7}, {7, 0, 7}, {7, 7, 0}, {0, 7, 9}, {9, 9, 8}};
        for (int[] three : apart) {
            Check.raises("median apart", ELEMENT, () -> x.median(three[0], three[1], three[2]));
        }
        TreeCodes lone = Texts.of(LONE);
        Check.raises("three alone", ELEMENT, () -> lone.median(0, 1, 2));
        Check.same("one alone", lone.median(9, 9, 9), 9);
    }

    private static void meanDistances() {
        Check.same("one vertex", new TreeCodes().meanDistance(0), 0.0);
        Check.same("two vertices", Texts.of("vertices 2;edge 0 1;").meanDistance(1), 0.5);
        TreeCodes path = Texts.of(PATH);
        Check.same("end of a path", path.meanDistance(0), 4.5);
        Check.same("middle of a path", path.meanDistance(4), 2.5);
        TreeCodes star = Texts.of(STAR);
        Check.same("middle of a star", star.meanDistance(9), 9.0 / 10.0);
        Check.same("leaf of a star", star.meanDistance(0), 17.0 / 10.0);
        Check.same("three vertices", Texts.of("vertices 3;path 0 1 2;").meanDistance(1), 2.0 / 3.0);
        TreeCodes x = Texts.of(MIXED);
        Check.same("its component alone", x.meanDistance(0), 16.0 / 7.0);
        Check.same("a pair", x.meanDistance(8), 0.5);
        Check.same("alone", x.meanDistance(9), 0.0);
    }

    private static void balances() {
        Check.same("two vertices", Texts.of("vertices 2;edge 0 1;").balance(1), 0.5f);
        Check.same("three vertices", Texts.of("vertices 3;path 0 1 2;").balance(1), 1.0f / 3.0f);
        TreeCodes path = Texts.of(PATH);
        for (int v = 0; v < 10; v++) {
            Check.same("balance(" + v + ")", path.balance(v), (float) Math.max(v, 9 - v) / 10.0f);
        }
        TreeCodes star = Texts.of(STAR);
        Check.same("middle of a star", star.balance(9), 0.1f);
        Check.same("leaf of a star", star.balance(0), 0.9f);
        TreeCodes x = Texts.of(MIXED);
        Check.same("its component alone", x.balance(0), 6.0f / 7.0f);
        Check.same("weights do not matter", x.balance(1), 5.0f / 7.0f);
        Check.same("four parts", x.balance(2), 2.0f / 7.0f);
    }

    private static void noParts() {
        Check.same("one vertex", new TreeCodes().balance(0), 0.0f);
        Check.same("alone", Texts.of(MIXED).balance(9), 0.0f);
        TreeCodes x = Texts.of("vertices 2;edge 0 1;");
        x.cut(0, 1);
        Check.same("cut off", x.balance(1), 0.0f);
    }
}
