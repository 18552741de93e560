import java.util.ArrayList;
import java.util.HashSet;
import java.util.List;
import java.util.Set;
import java.util.TreeSet;

/** Counts by formulas beside counting; codes, symmetries and labellings beside all trees of a size. */
public final class CountsTest {
    public static void main(String[] args) {
        TreeCodes x = new TreeCodes();
        for (int n = 1; n <= 7; n++) {
            goThrough(x, n);
        }
        Check.end();
    }

    private static void goThrough(TreeCodes x, int n) {
        int[] withLeaves = new int[11];
        List<String> words = new ArrayList<>();
        Set<String> rooted = new HashSet<>();
        int lastNew = 0;
        int diameters = 0;
        Model.State tree = new Model.State(n);
        for (int rank = 0; rank < Model.trees(n); rank++) {
            tree.plant(rank);
            TreeSet<Integer> members = tree.partOf(0, -1);
            int leaves = 0;
            for (int v = 0; v < n; v++) {
                leaves += tree.neighbors(v).size() == 1 ? 1 : 0;
                rooted.add(tree.word(v, -1));
            }
            withLeaves[leaves]++;
            diameters += members.stream().mapToInt(tree::eccentricity).max().getAsInt();
            String word = tree.word(members);
            if (!words.contains(word)) {
                words.add(word);
                lastNew = rank;
            }
        }
        compare(x, n, withLeaves, words.size(), rooted.size());
        if (n <= 6) {
            Check.same("24: survey(" + n + ", 0)", x.survey(n, 0), words.size());
            Check.same("24: survey(" + n + ", 1)", x.survey(n, 1), lastNew);
            Check.same("24: survey(" + n + ", 2)", x.survey(n, 2), diameters);
        }
        walk(n, words);
    }

    private static void compare(TreeCodes x, int n, int[] withLeaves, int free, int rooted) {
        for (int leaves = 0; leaves <= 10; leaves++) {
            Check.same("22: withLeaves(" + n + ", " + leaves + ")", x.withLeaves(n, leaves), withLeaves[leaves]);
        }
        Check.same("23: classes(" + n + ", false)", x.classes(n, false), free);
        Check.same("23: classes(" + n + ", true)", x.classes(n, true), rooted);
    }

    /** The trees with one word are as many as its labellings; fromRank() and rank() go there and back. */
    private static void walk(int n, List<String> words) {
        TreeCodes x = Texts.of("vertices " + n + ";");
        int[] met = new int[words.size()];
        int[] labellings = new int[words.size()];
        for (int rank = 0; rank < Model.trees(n); rank++) {
            // an object is used for 512 calls at most
            if (rank % 20 == 19) {
                x = Texts.of("vertices " + n + ";");
            }
            x.fromRank(rank);
            Check.same("15: rank behind fromRank(" + rank + ") of " + n, x.rank(), rank);
            if (n < 7 || rank % 7 == 0) {
                int c = words.indexOf(Texts.word(x, 0));
                labellings[c] = x.labellings(0);
                met[c]++;
            }
        }
        for (int c = 0; c < met.length && n < 7; c++) {
            Check.same("21: labellings of " + words.get(c), labellings[c], met[c]);
        }
    }
}
