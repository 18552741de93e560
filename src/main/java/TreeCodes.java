import java.util.Arrays;
import java.util.NoSuchElementException;

/**
 * Labelled trees and forests with 1 to 10 vertices, as ../shared/DOC.md promises them.
 *
 * Sets of vertices are ints everywhere: bit k stands for vertex k. All rows are made with the
 * object and used again, because what a whole run makes is counted.
 */
public final class TreeCodes {
    /** Returned when there is no such value. */
    public static final int NONE = -1;

    private static final int MOST_VERTICES = 10;
    private static final int MOST_WEIGHT = 99;
    private static final int MOST_BYTES = 400;
    private static final int BYTES_OF_APPEND = 20;
    private static final int MOST_ROUNDS = 9;
    private static final int MOST_SURVEYED = 6;
    private static final int SURVEY_ANSWERS = 3;
    private static final int SNAPSHOTS = 3;
    private static final int UNDOABLE = 8;
    private static final int SAVED_ROW = 2 * MOST_VERTICES;

    private static final int BY_ECCENTRICITY = 0;
    private static final int BY_GREATEST_PART = 1;
    private static final int BY_HEAVIEST_PART = 2;

    private static final int LINKS = 0;
    private static final int CUTS = 1;
    private static final int REGRAFTS = 2;
    private static final int ROUNDS = 3;
    private static final int TREES_SET = 4;
    private static final int REFUSED_LINKS = 5;
    private static final int REFUSED_CUTS = 6;
    private static final int REFUSED_REGRAFTS = 7;
    private static final int REFUSED_NEXT_TREES = 8;
    private static final int REFUSED_RESTORES = 9;
    private static final int ACCOUNTS = 10;

    private final Reader reader = new Reader();
    private final Bytes output = new Bytes();
    private final Forest now = new Forest();
    private final Forest pruned = new Forest();
    private final Codes codes = new Codes();
    private final Words words = new Words();
    private final Counts counts = new Counts();
    private final Survey surveyed = new Survey();
    private final Past past = new Past();
    private final int[] accounts = new int[ACCOUNTS];

    public TreeCodes() {
    }

    // ---- texts

    public int append(int a, int b, int c, int d, int e) {
        Bytes input = reader.text;
        if (input.length + BYTES_OF_APPEND > MOST_BYTES) {
            return NONE;
        }
        input.putFour(a);
        input.putFour(b);
        input.putFour(c);
        input.putFour(d);
        input.putFour(e);
        return input.length;
    }

    public boolean truncate(int length) {
        return reader.text.shorten(length);
    }

    public int bufferLength() {
        return reader.text.length;
    }

    public int load() {
        int error = reader.readText();
        reader.text.shorten(0);
        if (error != 0) {
            return -error;
        }
        now.copy(reader.forest);
        past.forget();
        Arrays.fill(accounts, 0);
        return now.edges();
    }

    // ---- the forest

    public int forest(int what) {
        switch (what) {
            case 0: return now.size;
            case 1: return now.edges();
            case 2: return now.components();
            case 3: return now.countOfDegree(now.all(), 1);
            case 4: return now.countOfDegree(now.all(), 0);
            case 5: return now.weightOfSet(now.all());
            case 6:
                words.classOf(now, now.components() - 1);
                return words.met.count;
            case 7: return past.kept;
            case 8: return past.changes;
            default: return NONE;
        }
    }

    public int vertex(int vertex, int what) throws IndexOutOfBoundsException, IllegalArgumentException {
        needVertex(vertex);
        switch (what) {
            case 0: return now.degree(vertex);
            case 1: return now.weightOf(vertex);
            case 2: return now.componentNumber(vertex);
            case 3: return Integer.bitCount(now.componentWith(vertex));
            case 4: return now.eccentricity(vertex);
            case 5: return roundOf(vertex);
            case 6: return now.nearOf(vertex);
            case 7: return words.orbitOf(now, vertex);
            default: throw new IllegalArgumentException("no such property of a vertex");
        }
    }

    public int component(int component, int what) throws IndexOutOfBoundsException, IllegalArgumentException {
        int members = neededComponent(component);
        switch (what) {
            case 0: return members;
            case 1: return now.diameter(members);
            case 2: return now.leastBy(members, BY_ECCENTRICITY);
            case 3: return now.leastBy(members, BY_GREATEST_PART);
            case 4: return now.leastBy(members, BY_HEAVIEST_PART);
            case 5: return words.classOf(now, component);
            case 6: return now.countOfDegree(members, 1);
            default: throw new IllegalArgumentException("no such property of a component");
        }
    }

    public int distance(int a, int b) throws IndexOutOfBoundsException {
        needVertex(a);
        needVertex(b);
        return now.steps(a, b);
    }

    public int onPath(int a, int b, int step) throws IndexOutOfBoundsException, NoSuchElementException {
        needVertex(a);
        needVertex(b);
        int found = now.pathVertex(a, b, step);
        if (found == NONE) {
            throw new NoSuchElementException("no such step of a path");
        }
        return found;
    }

    public int median(int a, int b, int c) throws IndexOutOfBoundsException, NoSuchElementException {
        needVertex(a);
        needVertex(b);
        needVertex(c);
        int onAll = now.pathSet(a, b) & now.pathSet(b, c) & now.pathSet(a, c);
        if (onAll == 0) {
            throw new NoSuchElementException("not in one component");
        }
        return lowest(onAll);
    }

    public double meanDistance(int vertex) throws IndexOutOfBoundsException {
        needVertex(vertex);
        int members = now.componentWith(vertex);
        int sum = 0;
        for (int v = 0; v < now.size; v++) {
            if (holds(members, v)) {
                sum += now.steps(vertex, v);
            }
        }
        int count = Integer.bitCount(members);
        return count == 0 ? 0.0 : (double) sum / (double) count;
    }

    public float balance(int vertex) throws IndexOutOfBoundsException {
        needVertex(vertex);
        int count = Integer.bitCount(now.componentWith(vertex));
        return count == 0 ? 0.0f : (float) now.greatestPart(vertex, false) / (float) count;
    }

    // ---- codes

    public int code(int index) throws IllegalStateException, NoSuchElementException {
        needTree();
        if (index < 0 || index >= codeLength(now.size)) {
            throw new NoSuchElementException("no such index of the code");
        }
        codes.take(now);
        return codes.number(index);
    }

    public int rank() throws IllegalStateException {
        needTree();
        return codes.rankOf(now);
    }

    public int sameDegrees() throws IllegalStateException {
        needTree();
        int ways = factorial(now.size - 2);
        for (int v = 0; v < now.size; v++) {
            ways = quotient(ways, factorial(now.degree(v) - 1));
        }
        return ways;
    }

    // ---- words and classes

    public int writeWord(int component) throws IndexOutOfBoundsException {
        int members = neededComponent(component);
        output.shorten(0);
        int word = words.wordOf(now, members);
        int signs = 2 * Integer.bitCount(members);
        for (int i = 0; i < signs; i++) {
            output.put(Words.signAt(word, i));
        }
        return output.length;
    }

    public int writeText() {
        output.shorten(0);
        output.putStatement("vertices", now.size, NONE);
        for (int a = 0; a < now.size; a++) {
            for (int b = a + 1; b < now.size; b++) {
                if (now.hasEdge(a, b)) {
                    output.putStatement("edge", a, b);
                }
            }
        }
        for (int v = 0; v < now.size; v++) {
            if (now.weightOf(v) != 1) {
                output.putStatement("weight", v, now.weightOf(v));
            }
        }
        return output.length;
    }

    public int outputByte(int index) throws NoSuchElementException {
        if (index < 0 || index >= output.length) {
            throw new NoSuchElementException("no such byte of the output");
        }
        return output.at(index);
    }

    public int symmetries(int component) throws IndexOutOfBoundsException {
        return words.symmetriesOf(now, neededComponent(component));
    }

    public int labellings(int component) throws IndexOutOfBoundsException {
        int members = neededComponent(component);
        return quotient(factorial(Integer.bitCount(members)), words.symmetriesOf(now, members));
    }

    // ---- counts of trees, whatever the forest is

    public int withLeaves(int n, int leaves) throws IllegalArgumentException {
        if (n < 1 || n > MOST_VERTICES || leaves < 0 || leaves > MOST_VERTICES) {
            throw new IllegalArgumentException("vertices or leaves out of range");
        }
        return counts.treesWithLeaves(n, leaves);
    }

    public int classes(int n, boolean rooted) throws IllegalArgumentException {
        if (n < 1 || n > MOST_VERTICES) {
            throw new IllegalArgumentException("vertices out of range");
        }
        return rooted ? counts.rootedClasses(n) : counts.freeClasses(n);
    }

    public int survey(int n, int what) throws IllegalArgumentException {
        if (n < 1 || n > MOST_SURVEYED || what < 0 || what >= SURVEY_ANSWERS) {
            throw new IllegalArgumentException("vertices or what out of range");
        }
        surveyed.goThrough(n);
        return surveyed.answer(n, what);
    }

    // ---- changes

    public int link(int a, int b) throws IndexOutOfBoundsException {
        needVertex(a);
        needVertex(b);
        int reason = reasonAgainstLink(a, b);
        if (reason != 0) {
            accounts[REFUSED_LINKS]++;
            return reason;
        }
        past.record(now);
        now.join(a, b);
        accounts[LINKS]++;
        return 0;
    }

    public boolean cut(int a, int b) throws IndexOutOfBoundsException {
        needVertex(a);
        needVertex(b);
        if (!now.hasEdge(a, b)) {
            accounts[REFUSED_CUTS]++;
            return false;
        }
        past.record(now);
        now.part(a, b);
        accounts[CUTS]++;
        return true;
    }

    public int regraft(int vertex, int from, int to) throws IndexOutOfBoundsException {
        needVertex(vertex);
        needVertex(from);
        needVertex(to);
        int reason = reasonAgainstRegraft(vertex, from, to);
        if (reason != 0) {
            accounts[REFUSED_REGRAFTS]++;
            return reason;
        }
        past.record(now);
        now.part(vertex, from);
        now.join(vertex, to);
        accounts[REGRAFTS]++;
        return 0;
    }

    public int prune(int rounds) throws IllegalArgumentException {
        if (rounds < 1 || rounds > MOST_ROUNDS) {
            throw new IllegalArgumentException("rounds out of range");
        }
        past.record(now);
        int before = now.edges();
        for (int round = 0; round < rounds; round++) {
            now.dropLeaves();
        }
        accounts[ROUNDS] += rounds;
        return before - now.edges();
    }

    public int swap(int a, int b) throws IndexOutOfBoundsException {
        needVertex(a);
        needVertex(b);
        int[] before = past.record(now);
        now.exchange(a, b);
        return now.edgesNotIn(before);
    }

    public int setWeight(int vertex, int weight) throws IndexOutOfBoundsException, IllegalArgumentException {
        needVertex(vertex);
        if (weight < 0 || weight > MOST_WEIGHT) {
            throw new IllegalArgumentException("weight out of range");
        }
        past.record(now);
        int former = now.weightOf(vertex);
        now.weigh(vertex, weight);
        return former;
    }

    public int fromRank(int rank) throws IllegalArgumentException {
        if (rank < 0 || rank >= treesWith(now.size)) {
            throw new IllegalArgumentException("no such rank");
        }
        return becomeTree(rank);
    }

    public int nextTree() {
        int rank = now.components() == 1 ? codes.rankOf(now) + 1 : treesWith(now.size);
        if (rank >= treesWith(now.size)) {
            accounts[REFUSED_NEXT_TREES]++;
            return NONE;
        }
        becomeTree(rank);
        return rank;
    }

    public boolean keep(int snapshot) throws IllegalArgumentException {
        needSnapshot(snapshot);
        boolean there = past.hasSnapshot(snapshot);
        past.keepSnapshot(snapshot, now);
        return there;
    }

    public boolean restore(int snapshot) throws IllegalArgumentException {
        needSnapshot(snapshot);
        if (!past.hasSnapshot(snapshot)) {
            accounts[REFUSED_RESTORES]++;
            return false;
        }
        past.record(now);
        past.bringSnapshot(snapshot, now);
        return true;
    }

    public int undo() {
        return past.takeBack(now) ? past.changes : NONE;
    }

    public int account(int what) throws IllegalArgumentException {
        if (what < 0 || what >= ACCOUNTS) {
            throw new IllegalArgumentException("no such account");
        }
        return accounts[what];
    }

    // ---- what the methods of the face share

    private void needVertex(int vertex) {
        if (!now.isVertex(vertex)) {
            throw new IndexOutOfBoundsException("no such vertex");
        }
    }

    private int neededComponent(int component) {
        int members = now.componentSet(component);
        if (members == 0) {
            throw new IndexOutOfBoundsException("no such component");
        }
        return members;
    }

    private void needTree() {
        if (now.components() != 1) {
            throw new IllegalStateException("no tree");
        }
    }

    private static void needSnapshot(int snapshot) {
        if (snapshot < 0 || snapshot >= SNAPSHOTS) {
            throw new IllegalArgumentException("snapshot out of range");
        }
    }

    private int reasonAgainstLink(int a, int b) {
        if (a == b) {
            return 1;
        }
        if (now.hasEdge(a, b)) {
            return 2;
        }
        return now.steps(a, b) == NONE ? 0 : 3;
    }

    private int reasonAgainstRegraft(int vertex, int from, int to) {
        if (!now.hasEdge(vertex, from)) {
            return 1;
        }
        return holds(now.reachable(vertex, without(now.all(), from)), to) ? 2 : 0;
    }

    private int becomeTree(int rank) {
        int[] before = past.record(now);
        codes.setRank(now.size, rank);
        codes.plant(now);
        accounts[TREES_SET]++;
        return now.edgesNotIn(before);
    }

    private int roundOf(int vertex) {
        pruned.copy(now);
        int round = 0;
        while (round < MOST_VERTICES && pruned.degree(vertex) != 0) {
            pruned.dropLeaves();
            round++;
        }
        return round;
    }

    private static boolean holds(int set, int vertex) {
        return (set >> vertex & 1) != 0;
    }

    private static int without(int set, int vertex) {
        return set & ~(1 << vertex);
    }

    private static int lowest(int set) {
        for (int v = 0; v < MOST_VERTICES; v++) {
            if (holds(set, v)) {
                return v;
            }
        }
        return NONE;
    }

    private static int factorial(int number) {
        int product = 1;
        for (int factor = 2; factor <= number; factor++) {
            product *= factor;
        }
        return product;
    }

    private static int quotient(int number, int divisor) {
        return divisor == 0 ? 0 : number / divisor;
    }

    private static int codeLength(int size) {
        return Math.max(size - 2, 0);
    }

    private static int treesWith(int size) {
        int product = 1;
        for (int digit = 0; digit < codeLength(size); digit++) {
            product *= size;
        }
        return product;
    }

    /** What the input buffer and the output are. */
    private static final class Bytes {
        private final byte[] bytes = new byte[MOST_BYTES];
        private int length;

        int at(int index) {
            return index >= 0 && index < length ? bytes[index] : NONE;
        }

        boolean shorten(int newLength) {
            if (newLength < 0 || newLength > length) {
                return false;
            }
            length = newLength;
            return true;
        }

        void put(int sign) {
            if (length < MOST_BYTES) {
                bytes[length] = (byte) sign;
                length++;
            }
        }

        void putFour(int four) {
            put(four >> 24);
            put(four >> 16);
            put(four >> 8);
            put(four);
        }

        /** A second number that is NONE is left out. */
        void putStatement(String word, int first, int second) {
            for (int i = 0; i < word.length(); i++) {
                put(word.charAt(i));
            }
            putNumber(first);
            if (second != NONE) {
                putNumber(second);
            }
            put(';');
        }

        private void putNumber(int number) {
            put(' ');
            if (number > 9) {
                put('0' + number / 10);
            }
            put('0' + number % 10);
        }
    }

    /** Vertices with their weights and, for each, the set of its neighbors. */
    private static final class Forest {
        private final int[] near = new int[MOST_VERTICES];
        private final int[] weights = new int[MOST_VERTICES];
        private int size = 1;

        Forest() {
            Arrays.fill(weights, 1);
        }

        void clear(int vertices) {
            if (vertices >= 1 && vertices <= MOST_VERTICES) {
                size = vertices;
            }
            dropEdges();
            Arrays.fill(weights, 1);
        }

        void dropEdges() {
            Arrays.fill(near, 0);
        }

        void copy(Forest other) {
            size = other.size;
            System.arraycopy(other.near, 0, near, 0, MOST_VERTICES);
            System.arraycopy(other.weights, 0, weights, 0, MOST_VERTICES);
        }

        void saveTo(int[] row) {
            if (row.length == SAVED_ROW) {
                System.arraycopy(near, 0, row, 0, MOST_VERTICES);
                System.arraycopy(weights, 0, row, MOST_VERTICES, MOST_VERTICES);
            }
        }

        void bringFrom(int[] row) {
            if (row.length == SAVED_ROW) {
                System.arraycopy(row, 0, near, 0, MOST_VERTICES);
                System.arraycopy(row, MOST_VERTICES, weights, 0, MOST_VERTICES);
            }
        }

        int edgesNotIn(int[] row) {
            int ends = 0;
            for (int v = 0; v < size && v < row.length; v++) {
                ends += Integer.bitCount(near[v] & ~row[v]);
            }
            return ends / 2;
        }

        boolean isVertex(int vertex) {
            return vertex >= 0 && vertex < size;
        }

        int all() {
            return (1 << size) - 1;
        }

        int nearOf(int vertex) {
            return vertex >= 0 && vertex < MOST_VERTICES ? near[vertex] : 0;
        }

        int degree(int vertex) {
            return Integer.bitCount(nearOf(vertex));
        }

        boolean hasEdge(int a, int b) {
            return isVertex(b) && holds(nearOf(a), b);
        }

        void join(int a, int b) {
            if (isVertex(a) && isVertex(b) && a != b) {
                near[a] |= 1 << b;
                near[b] |= 1 << a;
            }
        }

        void part(int a, int b) {
            if (isVertex(a) && isVertex(b)) {
                near[a] = without(near[a], b);
                near[b] = without(near[b], a);
            }
        }

        void exchange(int a, int b) {
            if (!isVertex(a) || !isVertex(b)) {
                return;
            }
            for (int v = 0; v < size; v++) {
                if (holds(near[v], a) != holds(near[v], b)) {
                    near[v] ^= 1 << a | 1 << b;
                }
            }
            int nearA = near[a];
            near[a] = near[b];
            near[b] = nearA;
        }

        int weightOf(int vertex) {
            return isVertex(vertex) ? weights[vertex] : 0;
        }

        void weigh(int vertex, int weight) {
            if (isVertex(vertex)) {
                weights[vertex] = weight;
            }
        }

        int weightOfSet(int set) {
            int sum = 0;
            for (int v = 0; v < size; v++) {
                if (holds(set, v)) {
                    sum += weights[v];
                }
            }
            return sum;
        }

        int edges() {
            int ends = 0;
            for (int v = 0; v < size; v++) {
                ends += Integer.bitCount(near[v]);
            }
            return ends / 2;
        }

        int setOfDegree(int set, int degree) {
            int found = 0;
            for (int v = 0; v < size; v++) {
                if (holds(set, v) && Integer.bitCount(near[v]) == degree) {
                    found |= 1 << v;
                }
            }
            return found;
        }

        int countOfDegree(int set, int degree) {
            return Integer.bitCount(setOfDegree(set, degree));
        }

        /** One round of pruning: what is a leaf is settled before the first edge goes. */
        void dropLeaves() {
            int leaves = setOfDegree(all(), 1);
            for (int v = 0; v < size; v++) {
                if (holds(leaves, v)) {
                    part(v, lowest(near[v]));
                }
            }
        }

        int withNeighbors(int set) {
            int wider = set;
            for (int v = 0; v < size; v++) {
                if (holds(set, v)) {
                    wider |= near[v];
                }
            }
            return wider;
        }

        int reachable(int vertex, int allowed) {
            int reached = 1 << vertex;
            for (int step = 0; step < size; step++) {
                int wider = withNeighbors(reached) & allowed;
                if (wider == reached) {
                    return reached;
                }
                reached = wider;
            }
            return reached;
        }

        int componentWith(int vertex) {
            return reachable(vertex, all());
        }

        /** 0, the empty set, if there is no such component. */
        int componentSet(int number) {
            int left = all();
            int met = 0;
            for (int v = 0; v < size; v++) {
                if (holds(left, v)) {
                    int members = componentWith(v);
                    if (met == number) {
                        return members;
                    }
                    left &= ~members;
                    met++;
                }
            }
            return 0;
        }

        int componentNumber(int vertex) {
            int least = lowest(componentWith(vertex));
            int smaller = 0;
            for (int v = 0; v < least; v++) {
                if (lowest(componentWith(v)) == v) {
                    smaller++;
                }
            }
            return smaller;
        }

        int components() {
            // no edge closes a cycle, so each one joins two parts into one
            return size - edges();
        }

        int steps(int a, int b) {
            int reached = 1 << a;
            for (int step = 0; step < size; step++) {
                if (holds(reached, b)) {
                    return step;
                }
                reached = withNeighbors(reached);
            }
            return NONE;
        }

        int eccentricity(int vertex) {
            int reached = 1 << vertex;
            for (int step = 0; step < size; step++) {
                int wider = withNeighbors(reached);
                if (wider == reached) {
                    return step;
                }
                reached = wider;
            }
            return size - 1;
        }

        int diameter(int members) {
            int greatest = 0;
            for (int v = 0; v < size; v++) {
                if (holds(members, v)) {
                    greatest = Math.max(greatest, eccentricity(v));
                }
            }
            return greatest;
        }

        /** The empty set if there is no path. */
        int pathSet(int a, int b) {
            int length = steps(a, b);
            int found = 0;
            for (int v = 0; v < size && length != NONE; v++) {
                if (steps(a, v) + steps(v, b) == length) {
                    found |= 1 << v;
                }
            }
            return found;
        }

        int pathVertex(int a, int b, int step) {
            int path = pathSet(a, b);
            for (int v = 0; v < size; v++) {
                if (holds(path, v) && steps(a, v) == step) {
                    return v;
                }
            }
            return NONE;
        }

        int greatestPart(int vertex, boolean weighed) {
            int others = without(all(), vertex);
            int greatest = 0;
            for (int v = 0; v < size; v++) {
                if (hasEdge(vertex, v)) {
                    int part = reachable(v, others);
                    greatest = Math.max(greatest, weighed ? weightOfSet(part) : Integer.bitCount(part));
                }
            }
            return greatest;
        }

        private int measure(int vertex, int by) {
            return by == BY_ECCENTRICITY ? eccentricity(vertex) : greatestPart(vertex, by == BY_HEAVIEST_PART);
        }

        int leastBy(int members, int by) {
            int least = 0;
            int found = 0;
            for (int v = 0; v < size; v++) {
                if (holds(members, v)) {
                    int measured = measure(v, by);
                    if (found == 0 || measured < least) {
                        least = measured;
                        found = 1 << v;
                    } else if (measured == least) {
                        found |= 1 << v;
                    }
                }
            }
            return found;
        }
    }

    /** The code of a tree, taken from it, read from a text or told by a rank. */
    private static final class Codes {
        private final int[] numbers = new int[MOST_VERTICES];

        int number(int index) {
            return index >= 0 && index < MOST_VERTICES ? numbers[index] : NONE;
        }

        void setNumber(int index, int number) {
            if (index >= 0 && index < MOST_VERTICES) {
                numbers[index] = number;
            }
        }

        void take(Forest tree) {
            int left = tree.all();
            for (int i = 0; i < codeLength(tree.size); i++) {
                int leaf = lowestLeaf(tree, left);
                setNumber(i, lowest(tree.nearOf(leaf) & left));
                left = without(left, leaf);
            }
        }

        private static int lowestLeaf(Forest tree, int left) {
            for (int v = 0; v < tree.size; v++) {
                if (holds(left, v) && Integer.bitCount(tree.nearOf(v) & left) == 1) {
                    return v;
                }
            }
            return NONE;
        }

        int rankOf(Forest tree) {
            take(tree);
            int rank = 0;
            for (int i = 0; i < codeLength(tree.size); i++) {
                rank = rank * tree.size + number(i);
            }
            return rank;
        }

        void setRank(int size, int rank) {
            int rest = rank;
            for (int i = codeLength(size) - 1; i >= 0 && size > 0; i--) {
                setNumber(i, rest % size);
                rest /= size;
            }
        }

        /** Gives a forest the edges of the tree with this code. */
        void plant(Forest forest) {
            forest.dropEdges();
            int left = forest.all();
            for (int i = 0; i < codeLength(forest.size); i++) {
                // a vertex is a leaf by now if the rest of the code does not name it
                int leaf = lowest(left & ~namedFrom(i, codeLength(forest.size)));
                forest.join(leaf, number(i));
                left = without(left, leaf);
            }
            int last = lowest(left);
            forest.join(last, lowest(without(left, last)));
        }

        private int namedFrom(int index, int end) {
            int named = 0;
            for (int i = index; i < end; i++) {
                named |= 1 << number(i);
            }
            return named;
        }
    }

    /** Words in the order in which they are met, each once. */
    private static final class Met {
        private final int[] words = new int[MOST_VERTICES];
        private int count;

        void forget() {
            count = 0;
        }

        int numberOf(int word) {
            for (int i = 0; i < count && i < MOST_VERTICES; i++) {
                if (words[i] == word) {
                    return i;
                }
            }
            if (count >= MOST_VERTICES) {
                return NONE;
            }
            words[count] = word;
            count++;
            return count - 1;
        }
    }

    /**
     * Words as numbers: a 0 for "(" and a 1 for ")", the first sign at the highest of twenty bits.
     * No word begins with another one, so the numbers compare as the words do.
     */
    private static final class Words {
        private static final int SIGNS = 2 * MOST_VERTICES;

        private final int[] levels = new int[MOST_VERTICES];
        private final int[] words = new int[MOST_VERTICES];
        private final int[] lengths = new int[MOST_VERTICES];
        private final int[] longestBelow = new int[MOST_VERTICES];
        private final int[] symmetric = new int[MOST_VERTICES];
        private final Met met = new Met();

        static int signAt(int word, int index) {
            return holds(word, SIGNS - 1 - index) ? ')' : '(';
        }

        int wordFrom(Forest forest, int root) {
            if (!forest.isVertex(root)) {
                return NONE;
            }
            int below = 0;
            for (int level = layLevels(forest, root) - 1; level >= 0; level--) {
                for (int v = 0; v < forest.size; v++) {
                    if (holds(levels[level], v)) {
                        assemble(v, forest.nearOf(v) & below);
                    }
                }
                below = levels[level];
            }
            return words[root];
        }

        /** Answers the number of levels; the root alone is the first one. */
        private int layLevels(Forest forest, int root) {
            int laid = 0;
            int level = 1 << root;
            int count = 0;
            while (level != 0 && count < MOST_VERTICES) {
                levels[count] = level;
                count++;
                laid |= level;
                level = forest.withNeighbors(level) & ~laid;
            }
            return count;
        }

        private void assemble(int vertex, int children) {
            int word = 0;
            int length = 1;
            int ways = 1;
            int former = NONE;
            int alike = 0;
            int longest = 0;
            int left = children;
            for (int turn = 0; turn < MOST_VERTICES && left != 0; turn++) {
                int child = leastWord(left);
                alike = words[child] == former ? alike + 1 : 1;
                former = words[child];
                // the factors 1, 2, 3, .. of children that are alike: the ways to exchange them
                ways *= alike * symmetric[child];
                word |= words[child] >> length;
                length += lengths[child];
                longest = Math.max(longest, lengths[child]);
                left = without(left, child);
            }
            words[vertex] = word | 1 << SIGNS - 1 - length;
            lengths[vertex] = length + 1;
            longestBelow[vertex] = longest;
            symmetric[vertex] = ways;
        }

        private int leastWord(int set) {
            int least = 0;
            boolean any = false;
            for (int v = 0; v < MOST_VERTICES; v++) {
                if (holds(set, v) && (!any || words[v] < words[least])) {
                    least = v;
                    any = true;
                }
            }
            return least;
        }

        int wordOf(Forest forest, int members) {
            wordFrom(forest, lowest(members));
            int centroids = centroidsSeen(forest, members);
            int least = NONE;
            for (int v = 0; v < forest.size; v++) {
                if (holds(centroids, v)) {
                    int word = wordFrom(forest, v);
                    least = least == NONE ? word : Math.min(least, word);
                }
            }
            return least;
        }

        /** From the lengths of the words below each vertex: a centroid has no part of more than half of all. */
        private int centroidsSeen(Forest forest, int members) {
            int signs = 2 * Integer.bitCount(members);
            int found = 0;
            for (int v = 0; v < forest.size; v++) {
                if (holds(members, v) && 2 * Math.max(longestBelow[v], signs - lengths[v]) <= signs) {
                    found |= 1 << v;
                }
            }
            return found;
        }

        int orbitOf(Forest forest, int vertex) {
            int members = forest.componentWith(vertex);
            int word = wordFrom(forest, vertex);
            int orbit = 0;
            for (int v = 0; v < forest.size; v++) {
                if (holds(members, v) && wordFrom(forest, v) == word) {
                    orbit |= 1 << v;
                }
            }
            return orbit;
        }

        /** A symmetry brings the root to a vertex of its orbit, and then moves only what hangs at it. */
        int symmetriesOf(Forest forest, int members) {
            int root = lowest(members);
            if (root == NONE) {
                return 0;
            }
            int places = Integer.bitCount(orbitOf(forest, root));
            wordFrom(forest, root);
            return places * symmetric[root];
        }

        /** Meets the words of the components up to this one, each word once. */
        int classOf(Forest forest, int component) {
            met.forget();
            int number = NONE;
            for (int c = 0; c <= component && c < MOST_VERTICES; c++) {
                number = met.numberOf(wordOf(forest, forest.componentSet(c)));
            }
            return number;
        }
    }

    /** Numbers of trees that formulas tell. */
    private static final class Counts {
        private final int[] partitions = new int[MOST_VERTICES + 1];
        private final int[] rootedTrees = new int[MOST_VERTICES + 1];
        private final int[] divisorSums = new int[MOST_VERTICES + 1];

        /** n! / leaves! ways to name the partition of the code's places among the other vertices. */
        int treesWithLeaves(int n, int leaves) {
            if (n == 1) {
                return leaves == 0 ? 1 : 0;
            }
            if (leaves > n) {
                return 0;
            }
            int ways = partitionsOf(n - 2, n - leaves);
            for (int factor = leaves + 1; factor <= n; factor++) {
                ways *= factor;
            }
            return ways;
        }

        /** The numbers of Stirling: partitions of so many things into so many sets. */
        private int partitionsOf(int things, int sets) {
            if (sets < 0 || sets > MOST_VERTICES) {
                return 0;
            }
            Arrays.fill(partitions, 0);
            partitions[0] = 1;
            for (int thing = 0; thing < things; thing++) {
                for (int k = MOST_VERTICES; k > 0; k--) {
                    partitions[k] = k * partitions[k] + partitions[k - 1];
                }
                partitions[0] = 0;
            }
            return partitions[sets];
        }

        int rootedClasses(int n) {
            countRooted();
            return n >= 1 && n <= MOST_VERTICES ? rootedTrees[n] : 0;
        }

        /** k r(k + 1) is the sum of s(i) r(k + 1 - i), where s(i) sums d r(d) for the divisors d of i. */
        private void countRooted() {
            Arrays.fill(divisorSums, 0);
            rootedTrees[1] = 1;
            for (int k = 1; k < MOST_VERTICES; k++) {
                for (int multiple = k; multiple <= MOST_VERTICES; multiple += k) {
                    divisorSums[multiple] += k * rootedTrees[k];
                }
                int sum = 0;
                for (int i = 1; i <= k; i++) {
                    sum += divisorSums[i] * rootedTrees[k + 1 - i];
                }
                rootedTrees[k + 1] = sum / k;
            }
        }

        /** Otter: each class has one vertex orbit more than orbits of edges with ends that differ. */
        int freeClasses(int n) {
            if (n < 1 || n > MOST_VERTICES) {
                return 0;
            }
            countRooted();
            int pairs = n % 2 == 0 ? -rootedTrees[n / 2] : 0;
            for (int i = 1; i < n; i++) {
                pairs += rootedTrees[i] * rootedTrees[n - i];
            }
            return rootedTrees[n] - pairs / 2;
        }
    }

    /** What going through all trees tells, kept for each number of vertices, since it never changes. */
    private static final class Survey {
        private final int[][] answers = new int[MOST_SURVEYED + 1][SURVEY_ANSWERS];
        private final Forest tree = new Forest();
        private final Codes codes = new Codes();
        private final Words words = new Words();
        private final Met met = new Met();

        int answer(int n, int what) {
            boolean there = n >= 1 && n <= MOST_SURVEYED && what >= 0 && what < SURVEY_ANSWERS;
            return there ? answers[n][what] : NONE;
        }

        void goThrough(int n) {
            // there is at least one word as soon as n has been gone through
            if (n < 1 || n > MOST_SURVEYED || answers[n][0] != 0) {
                return;
            }
            met.forget();
            tree.clear(n);
            int lastNew = NONE;
            int diameters = 0;
            for (int rank = 0; rank < treesWith(n); rank++) {
                codes.setRank(n, rank);
                codes.plant(tree);
                int before = met.count;
                met.numberOf(words.wordOf(tree, tree.all()));
                lastNew = met.count > before ? rank : lastNew;
                diameters += tree.diameter(tree.all());
            }
            answers[n][0] = met.count;
            answers[n][1] = lastNew;
            answers[n][2] = diameters;
        }
    }

    /** The input buffer, and what reads it as a text, token by token, into a forest of its own. */
    private static final class Reader {
        private static final int END = 0;
        private static final int WORD = 1;
        private static final int NUMBER = 2;
        private static final int SEMICOLON = 3;
        private static final int INVALID = 4;

        private static final int NOT_ALLOWED = 1;
        private static final int OUT_OF_RANGE = 2;
        private static final int NO_NEW_EDGE = 3;
        private static final int LATE_CODE = 4;

        private final Bytes text = new Bytes();
        private final Forest forest = new Forest();
        private final Codes codes = new Codes();
        private int start;
        private int end;
        private int token;
        private int value;
        private int error;

        /** Answers 0, or 8 * offset + kind of the error. */
        int readText() {
            end = 0;
            error = 0;
            advance();
            boolean fine = readVertices();
            for (int count = 0; count < MOST_BYTES && fine && token != END; count++) {
                fine = readStatement() && endStatement();
            }
            return error;
        }

        private boolean readVertices() {
            if (!isWord("vertices")) {
                return fail(NOT_ALLOWED);
            }
            advance();
            if (!needNumber(1, MOST_VERTICES)) {
                return false;
            }
            forest.clear(value);
            advance();
            return endStatement();
        }

        private boolean readStatement() {
            if (isWord("edge")) {
                return readEdges(false, 1);
            }
            if (isWord("path")) {
                return readEdges(false, MOST_VERTICES);
            }
            if (isWord("star")) {
                return readEdges(true, MOST_VERTICES);
            }
            if (isWord("code")) {
                return readCode();
            }
            return isWord("weight") ? readWeight() : fail(NOT_ALLOWED);
        }

        private boolean endStatement() {
            if (token != SEMICOLON) {
                return fail(NOT_ALLOWED);
            }
            advance();
            return true;
        }

        private boolean readEdges(boolean star, int most) {
            advance();
            if (!needNumber(0, forest.size - 1)) {
                return false;
            }
            int from = value;
            advance();
            for (int count = 0; count < most && (count == 0 || token == NUMBER); count++) {
                if (!needNumber(0, forest.size - 1)) {
                    return false;
                }
                int to = value;
                if (forest.steps(from, to) != NONE) {
                    return fail(NO_NEW_EDGE);
                }
                forest.join(from, to);
                from = star ? from : to;
                advance();
            }
            return true;
        }

        private boolean readCode() {
            if (forest.edges() != 0) {
                return fail(LATE_CODE);
            }
            advance();
            for (int i = 0; i < codeLength(forest.size); i++) {
                if (!needNumber(0, forest.size - 1)) {
                    return false;
                }
                codes.setNumber(i, value);
                advance();
            }
            codes.plant(forest);
            return true;
        }

        private boolean readWeight() {
            advance();
            if (!needNumber(0, forest.size - 1)) {
                return false;
            }
            int vertex = value;
            advance();
            if (!needNumber(0, MOST_WEIGHT)) {
                return false;
            }
            forest.weigh(vertex, value);
            advance();
            return true;
        }

        private boolean needNumber(int least, int greatest) {
            if (token != NUMBER) {
                return fail(NOT_ALLOWED);
            }
            return value >= least && value <= greatest || fail(OUT_OF_RANGE);
        }

        private boolean fail(int kind) {
            error = 8 * start + kind;
            return false;
        }

        private boolean isWord(String word) {
            if (token != WORD || end - start != word.length()) {
                return false;
            }
            for (int i = 0; i < word.length(); i++) {
                if (text.at(start + i) != word.charAt(i)) {
                    return false;
                }
            }
            return true;
        }

        private void advance() {
            start = end;
            while (start < text.length && isBlank(text.at(start))) {
                start++;
            }
            int first = text.at(start);
            if (start >= text.length) {
                end = start;
                token = END;
            } else if (isLetter(first)) {
                advanceWord();
            } else if (isDigit(first)) {
                advanceNumber();
            } else {
                end = start + 1;
                token = first == ';' ? SEMICOLON : INVALID;
            }
        }

        private void advanceWord() {
            end = start;
            while (end < text.length && isLetter(text.at(end))) {
                end++;
            }
            token = WORD;
        }

        private void advanceNumber() {
            end = start;
            value = 0;
            while (end < text.length && isDigit(text.at(end))) {
                value = 10 * value + text.at(end) - '0';
                end++;
            }
            token = end - start > 2 ? INVALID : NUMBER;
        }

        private static boolean isBlank(int sign) {
            return sign == ' ' || sign == '\n';
        }

        private static boolean isLetter(int sign) {
            return sign >= 'a' && sign <= 'z';
        }

        private static boolean isDigit(int sign) {
            return sign >= '0' && sign <= '9';
        }
    }

    /** The latest changes that can be undone, in a ring of rows, and the snapshots. */
    private static final class Past {
        private final int[][] ring = new int[UNDOABLE][SAVED_ROW];
        private final int[][] snapshots = new int[SNAPSHOTS][SAVED_ROW];
        private int next;
        private int changes;
        private int kept;

        void forget() {
            changes = 0;
            kept = 0;
        }

        /** Answers the row in which the forest stands as it was ahead of the change. */
        int[] record(Forest forest) {
            int at = Math.floorMod(next, UNDOABLE);
            forest.saveTo(ring[at]);
            next = Math.floorMod(at + 1, UNDOABLE);
            changes = Math.min(changes + 1, UNDOABLE);
            return ring[at];
        }

        boolean takeBack(Forest forest) {
            if (changes == 0) {
                return false;
            }
            next = Math.floorMod(next - 1, UNDOABLE);
            changes--;
            forest.bringFrom(ring[next]);
            return true;
        }

        boolean hasSnapshot(int snapshot) {
            return snapshot >= 0 && snapshot < SNAPSHOTS && holds(kept, snapshot);
        }

        void keepSnapshot(int snapshot, Forest forest) {
            if (snapshot >= 0 && snapshot < SNAPSHOTS) {
                forest.saveTo(snapshots[snapshot]);
                kept |= 1 << snapshot;
            }
        }

        void bringSnapshot(int snapshot, Forest forest) {
            if (hasSnapshot(snapshot)) {
                forest.bringFrom(snapshots[snapshot]);
            }
        }
    }
}
