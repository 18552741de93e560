import java.nio.charset.StandardCharsets;
import java.util.ArrayDeque;
import java.util.ArrayList;
import java.util.Arrays;
import java.util.Collections;
import java.util.Deque;
import java.util.List;
import java.util.NoSuchElementException;
import java.util.TreeSet;
import java.util.function.ToIntFunction;

/** The document once more, by other and slower ways: tables of edges, words as texts, symmetries one by one. */
final class Model {
    /** A forest with its weights. */
    static final class State {
        final int n;
        final boolean[][] edge;
        final int[] weight;

        State(int n) {
            this.n = n;
            edge = new boolean[n][n];
            weight = new int[n];
            Arrays.fill(weight, 1);
        }

        State copy() {
            State other = new State(n);
            for (int a = 0; a < n; a++) {
                other.edge[a] = edge[a].clone();
            }
            System.arraycopy(weight, 0, other.weight, 0, n);
            return other;
        }

        void set(int a, int b, boolean there) {
            edge[a][b] = there;
            edge[b][a] = there;
        }

        List<Integer> neighbors(int v) {
            List<Integer> found = new ArrayList<>();
            for (int u = 0; u < n; u++) {
                if (edge[v][u]) {
                    found.add(u);
                }
            }
            return found;
        }

        int edges() {
            int count = 0;
            for (int v = 0; v < n; v++) {
                count += neighbors(v).size();
            }
            return count / 2;
        }

        int[][] distances() {
            int[][] far = new int[n][n];
            for (int a = 0; a < n; a++) {
                for (int b = 0; b < n; b++) {
                    far[a][b] = a == b ? 0 : edge[a][b] ? 1 : 99;
                }
            }
            for (int m = 0; m < n; m++) {
                for (int a = 0; a < n; a++) {
                    for (int b = 0; b < n; b++) {
                        far[a][b] = Math.min(far[a][b], far[a][m] + far[m][b]);
                    }
                }
            }
            return far;
        }

        TreeSet<Integer> partOf(int v, int barrier) {
            TreeSet<Integer> met = new TreeSet<>();
            Deque<Integer> open = new ArrayDeque<>();
            open.push(v);
            while (!open.isEmpty()) {
                int u = open.pop();
                if (u != barrier && met.add(u)) {
                    neighbors(u).forEach(open::push);
                }
            }
            return met;
        }

        List<TreeSet<Integer>> components() {
            List<TreeSet<Integer>> all = new ArrayList<>();
            for (int v = 0; v < n; v++) {
                TreeSet<Integer> members = partOf(v, -1);
                if (members.first() == v) {
                    all.add(members);
                }
            }
            return all;
        }

        String word(int v, int parent) {
            List<String> children = new ArrayList<>();
            for (int u : neighbors(v)) {
                if (u != parent) {
                    children.add(word(u, v));
                }
            }
            Collections.sort(children);
            return "(" + String.join("", children) + ")";
        }

        int part(int v, boolean weighed) {
            int greatest = 0;
            for (int u : neighbors(v)) {
                int sum = 0;
                for (int w : partOf(u, v)) {
                    sum += weighed ? weight[w] : 1;
                }
                greatest = Math.max(greatest, sum);
            }
            return greatest;
        }

        int eccentricity(int v) {
            return Arrays.stream(distances()[v]).filter(d -> d < 99).max().getAsInt();
        }

        static TreeSet<Integer> least(TreeSet<Integer> members, ToIntFunction<Integer> by) {
            int least = members.stream().mapToInt(by).min().getAsInt();
            TreeSet<Integer> found = new TreeSet<>(members);
            found.removeIf(v -> by.applyAsInt(v) != least);
            return found;
        }

        String word(TreeSet<Integer> members) {
            TreeSet<String> words = new TreeSet<>();
            for (int v : least(members, v -> part(v, false))) {
                words.add(word(v, -1));
            }
            return words.first();
        }

        /** Fills images[v] with the vertices to which symmetries bring v; answers their number. */
        int symmetries(TreeSet<Integer> members, TreeSet<Integer>[] images) {
            List<Integer> from = new ArrayList<>(members);
            return exchange(from, new int[from.size()], 0, new boolean[n], images);
        }

        private int exchange(List<Integer> from, int[] to, int at, boolean[] used, TreeSet<Integer>[] images) {
            if (at == to.length) {
                for (int i = 0; i < at; i++) {
                    images[from.get(i)].add(to[i]);
                }
                return 1;
            }
            int count = 0;
            for (int image : from) {
                boolean fits = !used[image] && neighbors(image).size() == neighbors(from.get(at)).size();
                for (int i = 0; i < at && fits; i++) {
                    fits = edge[from.get(i)][from.get(at)] == edge[to[i]][image];
                }
                if (fits) {
                    used[image] = true;
                    to[at] = image;
                    count += exchange(from, to, at + 1, used, images);
                    used[image] = false;
                }
            }
            return count;
        }

        int symmetries(TreeSet<Integer> members) {
            return symmetries(members, images());
        }

        int orbit(int v) {
            TreeSet<Integer>[] images = images();
            symmetries(partOf(v, -1), images);
            return bits(images[v]);
        }

        @SuppressWarnings("unchecked")
        private TreeSet<Integer>[] images() {
            TreeSet<Integer>[] images = new TreeSet[n];
            for (int v = 0; v < n; v++) {
                images[v] = new TreeSet<>();
            }
            return images;
        }

        int pruneRound() {
            State before = copy();
            int gone = 0;
            for (int a = 0; a < n; a++) {
                for (int b = a + 1; b < n; b++) {
                    if (edge[a][b] && (before.neighbors(a).size() == 1 || before.neighbors(b).size() == 1)) {
                        set(a, b, false);
                        gone++;
                    }
                }
            }
            return gone;
        }

        List<Integer> code() {
            State rest = copy();
            List<Integer> code = new ArrayList<>();
            while (code.size() < n - 2) {
                int leaf = 0;
                while (rest.neighbors(leaf).size() != 1) {
                    leaf++;
                }
                int neighbor = rest.neighbors(leaf).get(0);
                rest.set(leaf, neighbor, false);
                code.add(neighbor);
            }
            return code;
        }

        int rank() {
            return code().isEmpty() ? 0 : Integer.parseInt(digits(code()), n);
        }

        private static String digits(List<Integer> code) {
            StringBuilder text = new StringBuilder();
            code.forEach(text::append);
            return text.toString();
        }

        /** The decoding that counts how often each number is still to come. */
        void plant(List<Integer> code) {
            for (boolean[] row : edge) {
                Arrays.fill(row, false);
            }
            int[] open = new int[n];
            Arrays.fill(open, 1);
            code.forEach(c -> open[c]++);
            for (int c : code) {
                int leaf = 0;
                while (open[leaf] != 1) {
                    leaf++;
                }
                set(leaf, c, true);
                open[leaf]--;
                open[c]--;
            }
            int first = -1;
            for (int v = 0; v < n; v++) {
                if (open[v] == 1 && first >= 0) {
                    set(first, v, true);
                }
                first = open[v] == 1 ? v : first;
            }
        }

        void plant(int rank) {
            String digits = Integer.toString(rank, Math.max(n, 2));
            List<Integer> code = new ArrayList<>();
            for (int i = 0; i < n - 2 - digits.length(); i++) {
                code.add(0);
            }
            for (int i = 0; n > 2 && i < digits.length(); i++) {
                code.add(digits.charAt(i) - '0');
            }
            plant(code);
        }

        int newAgainst(State before) {
            int count = 0;
            for (int a = 0; a < n; a++) {
                for (int b = a + 1; b < n; b++) {
                    count += edge[a][b] && !before.edge[a][b] ? 1 : 0;
                }
            }
            return count;
        }

        String text() {
            StringBuilder text = new StringBuilder("vertices " + n + ";");
            for (int a = 0; a < n; a++) {
                for (int b = a + 1; b < n; b++) {
                    if (edge[a][b]) {
                        text.append("edge ").append(a).append(' ').append(b).append(';');
                    }
                }
            }
            for (int v = 0; v < n; v++) {
                if (weight[v] != 1) {
                    text.append("weight ").append(v).append(' ').append(weight[v]).append(';');
                }
            }
            return text.toString();
        }
    }

    static int bits(Iterable<Integer> set) {
        int bits = 0;
        for (int v : set) {
            bits |= 1 << v;
        }
        return bits;
    }

    private static int factorial(int n) {
        return n < 2 ? 1 : n * factorial(n - 1);
    }

    static int trees(int n) {
        return n < 3 ? 1 : (int) Math.round(Math.pow(n, n - 2));
    }

    private State now = new State(1);
    private final StringBuilder buffer = new StringBuilder();
    private String output = "";
    private final Deque<State> changes = new ArrayDeque<>();
    private final State[] snapshots = new State[3];
    private final int[] accounts = new int[10];

    State state() {
        return now;
    }

    private void vertices(int... all) {
        for (int v : all) {
            if (v < 0 || v >= now.n) {
                throw new IndexOutOfBoundsException();
            }
        }
    }

    private TreeSet<Integer> members(int c) {
        List<TreeSet<Integer>> all = now.components();
        if (c < 0 || c >= all.size()) {
            throw new IndexOutOfBoundsException();
        }
        return all.get(c);
    }

    private static void range(int value, int least, int greatest) {
        if (value < least || value > greatest) {
            throw new IllegalArgumentException();
        }
    }

    private void tree() {
        if (now.components().size() != 1) {
            throw new IllegalStateException();
        }
    }

    /** Every change goes on with a copy, so that the former states stay as they were. */
    private State change() {
        changes.addLast(now);
        if (changes.size() > 8) {
            changes.removeFirst();
        }
        now = now.copy();
        return changes.getLast();
    }

    int append(int... fours) {
        if (buffer.length() > 380) {
            return -1;
        }
        for (int four : fours) {
            for (int shift = 24; shift >= 0; shift -= 8) {
                buffer.append((char) (four >>> shift & 255));
            }
        }
        return buffer.length();
    }

    boolean truncate(int length) {
        if (length < 0 || length > buffer.length()) {
            return false;
        }
        buffer.setLength(length);
        return true;
    }

    int bufferLength() {
        return buffer.length();
    }

    int load() {
        ModelText text = new ModelText(buffer.toString());
        buffer.setLength(0);
        if (text.error != 0) {
            return -text.error;
        }
        now = text.state;
        changes.clear();
        Arrays.fill(snapshots, null);
        Arrays.fill(accounts, 0);
        return now.edges();
    }

    int forest(int what) {
        switch (what) {
            case 0: return now.n;
            case 1: return now.edges();
            case 2: return now.components().size();
            case 3: return withDegree(1);
            case 4: return withDegree(0);
            case 5: return Arrays.stream(now.weight).sum();
            case 6: return words().size();
            case 7: {
                int set = 0;
                for (int k = 0; k < 3; k++) {
                    set |= snapshots[k] == null ? 0 : 1 << k;
                }
                return set;
            }
            case 8: return changes.size();
            default: return -1;
        }
    }

    private int withDegree(int degree) {
        int count = 0;
        for (int v = 0; v < now.n; v++) {
            count += now.neighbors(v).size() == degree ? 1 : 0;
        }
        return count;
    }

    private List<String> words() {
        List<String> met = new ArrayList<>();
        for (TreeSet<Integer> members : now.components()) {
            String word = now.word(members);
            if (!met.contains(word)) {
                met.add(word);
            }
        }
        return met;
    }

    int vertex(int v, int what) {
        vertices(v);
        range(what, 0, 7);
        switch (what) {
            case 0: return now.neighbors(v).size();
            case 1: return now.weight[v];
            case 2: return now.components().indexOf(now.partOf(v, -1));
            case 3: return now.partOf(v, -1).size();
            case 4: return now.eccentricity(v);
            case 5: {
                State rest = now.copy();
                int round = 0;
                while (!rest.neighbors(v).isEmpty()) {
                    rest.pruneRound();
                    round++;
                }
                return round;
            }
            case 6: return bits(now.neighbors(v));
            default: return now.orbit(v);
        }
    }

    int component(int c, int what) {
        TreeSet<Integer> members = members(c);
        range(what, 0, 6);
        switch (what) {
            case 0: return bits(members);
            case 1: return members.stream().mapToInt(now::eccentricity).max().getAsInt();
            case 2: return bits(State.least(members, now::eccentricity));
            case 3: return bits(State.least(members, v -> now.part(v, false)));
            case 4: return bits(State.least(members, v -> now.part(v, true)));
            case 5: return words().indexOf(now.word(members));
            default: return (int) members.stream().filter(v -> now.neighbors(v).size() == 1).count();
        }
    }

    int distance(int a, int b) {
        vertices(a, b);
        int far = now.distances()[a][b];
        return far < 99 ? far : -1;
    }

    /** Walks from the vertex to the neighbor that is nearer to the end. */
    private List<Integer> path(int a, int b) {
        List<Integer> path = new ArrayList<>();
        if (distance(a, b) < 0) {
            return path;
        }
        path.add(a);
        int at = a;
        while (at != b) {
            for (int next : now.neighbors(at)) {
                if (distance(next, b) == distance(path.get(path.size() - 1), b) - 1) {
                    at = next;
                }
            }
            path.add(at);
        }
        return path;
    }

    int onPath(int a, int b, int step) {
        vertices(a, b);
        List<Integer> path = path(a, b);
        if (step < 0 || step >= path.size()) {
            throw new NoSuchElementException();
        }
        return path.get(step);
    }

    int median(int a, int b, int c) {
        vertices(a, b, c);
        List<Integer> common = path(a, b);
        common.retainAll(path(b, c));
        common.retainAll(path(a, c));
        if (common.isEmpty()) {
            throw new NoSuchElementException();
        }
        return common.get(0);
    }

    double meanDistance(int v) {
        vertices(v);
        int[] far = Arrays.stream(now.distances()[v]).filter(d -> d < 99).toArray();
        return (double) Arrays.stream(far).sum() / (double) far.length;
    }

    float balance(int v) {
        vertices(v);
        return (float) now.part(v, false) / (float) now.partOf(v, -1).size();
    }

    int code(int index) {
        tree();
        if (index < 0 || index >= now.code().size()) {
            throw new NoSuchElementException();
        }
        return now.code().get(index);
    }

    int rank() {
        tree();
        return now.rank();
    }

    int sameDegrees() {
        tree();
        int divisor = 1;
        for (int v = 0; v < now.n; v++) {
            divisor *= factorial(now.neighbors(v).size() - 1);
        }
        return factorial(now.n - 2) / divisor;
    }

    int writeWord(int c) {
        output = now.word(members(c));
        return output.length();
    }

    int writeText() {
        output = now.text();
        return output.length();
    }

    int outputByte(int index) {
        if (index < 0 || index >= output.length()) {
            throw new NoSuchElementException();
        }
        return output.getBytes(StandardCharsets.ISO_8859_1)[index];
    }

    int symmetries(int c) {
        return now.symmetries(members(c));
    }

    int labellings(int c) {
        return factorial(members(c).size()) / symmetries(c);
    }

    int link(int a, int b) {
        vertices(a, b);
        int reason = a == b ? 1 : now.edge[a][b] ? 2 : distance(a, b) >= 0 ? 3 : 0;
        if (reason == 0) {
            change();
            now.set(a, b, true);
        }
        accounts[reason == 0 ? 0 : 5]++;
        return reason;
    }

    boolean cut(int a, int b) {
        vertices(a, b);
        boolean there = now.edge[a][b];
        if (there) {
            change();
            now.set(a, b, false);
        }
        accounts[there ? 1 : 6]++;
        return there;
    }

    int regraft(int v, int from, int to) {
        vertices(v, from, to);
        int reason = 1;
        if (now.edge[v][from]) {
            State without = now.copy();
            without.set(v, from, false);
            reason = without.partOf(v, -1).contains(to) ? 2 : 0;
            if (reason == 0) {
                without.set(v, to, true);
                change();
                now = without;
            }
        }
        accounts[reason == 0 ? 2 : 7]++;
        return reason;
    }

    int prune(int rounds) {
        range(rounds, 1, 9);
        change();
        int gone = 0;
        for (int i = 0; i < rounds; i++) {
            gone += now.pruneRound();
        }
        accounts[3] += rounds;
        return gone;
    }

    int swap(int a, int b) {
        vertices(a, b);
        State before = change();
        for (int u = 0; u < now.n; u++) {
            for (int v = 0; v < now.n; v++) {
                now.edge[exchanged(u, a, b)][exchanged(v, a, b)] = before.edge[u][v];
            }
        }
        return now.newAgainst(before);
    }

    private static int exchanged(int v, int a, int b) {
        return v == a ? b : v == b ? a : v;
    }

    int setWeight(int v, int weight) {
        vertices(v);
        range(weight, 0, 99);
        State before = change();
        now.weight[v] = weight;
        return before.weight[v];
    }

    int fromRank(int rank) {
        range(rank, 0, trees(now.n) - 1);
        State before = change();
        now.plant(rank);
        accounts[4]++;
        return now.newAgainst(before);
    }

    int nextTree() {
        if (now.components().size() != 1 || now.rank() == trees(now.n) - 1) {
            accounts[8]++;
            return -1;
        }
        int rank = now.rank() + 1;
        fromRank(rank);
        return rank;
    }

    boolean keep(int k) {
        range(k, 0, 2);
        boolean there = snapshots[k] != null;
        snapshots[k] = now.copy();
        return there;
    }

    boolean restore(int k) {
        range(k, 0, 2);
        if (snapshots[k] == null) {
            accounts[9]++;
            return false;
        }
        change();
        now = snapshots[k].copy();
        return true;
    }

    int undo() {
        if (changes.isEmpty()) {
            return -1;
        }
        now = changes.removeLast();
        return changes.size();
    }

    int account(int what) {
        range(what, 0, 9);
        return accounts[what];
    }
}
