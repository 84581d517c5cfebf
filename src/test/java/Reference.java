import java.util.ArrayList;
import java.util.List;

/**
 * What the document says, done in the slowest way: every tour, every tree, every turn is looked at
 * whole. It shares no way of thinking with the program, so that both are hardly wrong alike.
 */
final class Reference {
    static final int NONE = -2000000;

    final int n;
    final int[][] distance;
    final int[][] marks;
    final int[] potentials;
    final List<int[]> tours = new ArrayList<>();
    final List<int[]> cases = new ArrayList<>();
    final List<List<int[]>> trees;
    int[] tour = null;

    Reference(int[][] distance, List<List<int[]>> trees) {
        this.n = distance.length;
        this.distance = distance;
        this.marks = new int[n][n];
        this.potentials = new int[n];
        this.trees = trees;
        permute(new ArrayList<>(List.of(0)));
    }

    private void permute(List<Integer> begun) {
        if (begun.size() == n) {
            if (begun.get(1) < begun.get(n - 1)) {
                tours.add(begun.stream().mapToInt(Integer::intValue).toArray());
            }
            return;
        }
        for (int city = 0; city < n; city++) {
            if (!begun.contains(city)) {
                begun.add(city);
                permute(begun);
                begun.remove(begun.size() - 1);
            }
        }
    }

    /** All sets of edges that join the cities 1 .. n - 1 with n - 2 edges, by Pruefer's rows. */
    static List<List<int[]>> allTrees(int n) {
        List<List<int[]>> all = new ArrayList<>();
        int others = n - 1;
        int rows = 1;
        for (int k = 0; k < others - 2; k++) {
            rows *= others;
        }
        for (int code = 0; code < rows; code++) {
            int[] row = new int[others - 2];
            int rest = code;
            for (int k = 0; k < row.length; k++) {
                row[k] = rest % others;
                rest /= others;
            }
            all.add(treeOf(row, others));
        }
        return all;
    }

    private static List<int[]> treeOf(int[] row, int others) {
        int[] open = new int[others];
        for (int city : row) {
            open[city]++;
        }
        boolean[] gone = new boolean[others];
        List<int[]> tree = new ArrayList<>();
        for (int city : row) {
            int leaf = 0;
            while (gone[leaf] || open[leaf] > 0) {
                leaf++;
            }
            gone[leaf] = true;
            open[city]--;
            tree.add(edge(leaf + 1, city + 1));
        }
        int first = -1;
        for (int city = 0; city < others; city++) {
            if (!gone[city] && first >= 0) {
                tree.add(edge(first + 1, city + 1));
            } else if (!gone[city]) {
                first = city;
            }
        }
        return tree;
    }

    private static int[] edge(int a, int b) {
        return new int[] {Math.min(a, b), Math.max(a, b)};
    }

    int number(int i, int j) {
        int count = 0;
        for (int a = 0; a < n; a++) {
            for (int b = a + 1; b < n; b++) {
                if (a == Math.min(i, j) && b == Math.max(i, j)) {
                    return count;
                }
                count++;
            }
        }
        throw new IllegalArgumentException();
    }

    int edges() {
        return number(n - 2, n - 1) + 1;
    }

    int length(int[] row) {
        int sum = 0;
        for (int k = 0; k < n; k++) {
            sum += distance[row[k]][row[(k + 1) % n]];
        }
        return sum;
    }

    boolean has(int[] row, int i, int j) {
        for (int k = 0; k < n; k++) {
            int a = row[k];
            int b = row[(k + 1) % n];
            if (a == i && b == j || a == j && b == i) {
                return true;
            }
        }
        return false;
    }

    private boolean agrees(int[] row, int[][] wanted) {
        for (int i = 0; i < n; i++) {
            for (int j = i + 1; j < n; j++) {
                if (wanted[i][j] == 1 && !has(row, i, j) || wanted[i][j] == 2 && has(row, i, j)) {
                    return false;
                }
            }
        }
        return true;
    }

    List<int[]> allowed() {
        List<int[]> found = new ArrayList<>();
        for (int[] row : tours) {
            if (agrees(row, marks)) {
                found.add(row);
            }
        }
        return found;
    }

    int least() {
        return allowed().stream().mapToInt(this::length).min().orElse(NONE);
    }

    int solve() {
        int least = least();
        for (int[] row : allowed()) {
            if (length(row) == least) {
                tour = row.clone();
                return least;
            }
        }
        return NONE;
    }

    int ties() {
        int least = least();
        return (int) allowed().stream().filter(row -> length(row) == least).count();
    }

    /** The one-tree under the marks, as a list of edges; null when there is none. */
    List<int[]> oneTree(int[][] wanted) {
        List<int[]> bestTree = null;
        for (List<int[]> tree : trees) {
            if (agreesTree(tree, wanted, 1) && (bestTree == null || isLess(tree, bestTree))) {
                bestTree = tree;
            }
        }
        List<int[]> bestPair = null;
        for (int i = 1; i < n; i++) {
            for (int j = i + 1; j < n; j++) {
                List<int[]> pair = List.of(edge(0, i), edge(0, j));
                if (agreesTree(pair, wanted, 0) && (bestPair == null || isLess(pair, bestPair))) {
                    bestPair = pair;
                }
            }
        }
        if (bestTree == null || bestPair == null) {
            return null;
        }
        List<int[]> both = new ArrayList<>(bestTree);
        both.addAll(bestPair);
        return both;
    }

    /** Looks at the edges at city 0 (part 0) or at all others (part 1). */
    private boolean agreesTree(List<int[]> tree, int[][] wanted, int part) {
        long set = sum(tree);
        for (int i = 0; i < n; i++) {
            for (int j = i + 1; j < n; j++) {
                if ((i == 0) == (part == 0)) {
                    boolean in = (set >> number(i, j) & 1) == 1;
                    if (wanted[i][j] == 1 && !in || wanted[i][j] == 2 && in) {
                        return false;
                    }
                }
            }
        }
        return true;
    }

    private boolean isLess(List<int[]> a, List<int[]> b) {
        return weight(a) != weight(b) ? weight(a) < weight(b) : sum(a) < sum(b);
    }

    private long sum(List<int[]> tree) {
        long sum = 0;
        for (int[] e : tree) {
            sum += 1L << number(e[0], e[1]);
        }
        return sum;
    }

    private int weight(List<int[]> tree) {
        int sum = 0;
        for (int[] e : tree) {
            sum += distance[e[0]][e[1]] + potentials[e[0]] + potentials[e[1]];
        }
        return sum;
    }

    int bound(int[][] wanted) {
        List<int[]> tree = oneTree(wanted);
        if (tree == null) {
            return NONE;
        }
        int bound = weight(tree);
        for (int v : potentials) {
            bound -= 2 * v;
        }
        return bound;
    }

    int degree(int city) {
        List<int[]> tree = oneTree(marks);
        return tree == null ? -1 : degreeIn(tree, city);
    }

    private static int degreeIn(List<int[]> tree, int city) {
        return (int) tree.stream().filter(e -> e[0] == city || e[1] == city).count();
    }

    int ascend(int step) {
        List<int[]> tree = oneTree(marks);
        if (step < 1 || step > 1000 || tree == null) {
            return -1;
        }
        int[] then = potentials.clone();
        for (int city = 0; city < n; city++) {
            then[city] += step * (degreeIn(tree, city) - 2);
            if (Math.abs(then[city]) > 100000) {
                return -1;
            }
        }
        System.arraycopy(then, 0, potentials, 0, n);
        return bound(marks);
    }

    int improve() {
        int[] row = new int[n];
        for (int k = 1; k < n; k++) {
            row[k] = -1;
            for (int city = n - 1; city > 0; city--) {
                boolean met = false;
                for (int b = 0; b < k; b++) {
                    met |= row[b] == city;
                }
                if (!met && (row[k] < 0 || distance[row[k - 1]][city] <= distance[row[k - 1]][row[k]])) {
                    row[k] = city;
                }
            }
        }
        for (int[] next = shorter(row); next != null; next = shorter(row)) {
            row = next;
        }
        tour = row[1] > row[n - 1] ? turned(row, 1, n - 1) : row;
        return length(tour);
    }

    private int[] shorter(int[] row) {
        for (int i = 1; i <= n - 1; i++) {
            for (int j = i + 1; j <= n - 1; j++) {
                int[] next = turned(row, i, j);
                if (length(next) < length(row)) {
                    return next;
                }
            }
        }
        return null;
    }

    private static int[] turned(int[] row, int i, int j) {
        int[] next = row.clone();
        for (int k = i; k <= j; k++) {
            next[k] = row[i + j - k];
        }
        return next;
    }

    int add(int with, int without) {
        for (int bit = 0; bit < 32; bit++) {
            boolean a = (with >>> bit & 1) == 1;
            boolean b = (without >>> bit & 1) == 1;
            if (bit >= edges() && (a || b) || a && b) {
                return -1;
            }
        }
        if (cases.size() == 10) {
            return NONE;
        }
        cases.add(new int[] {with, without});
        return cases.size();
    }

    /** The marks that a case would set. */
    int[][] marksOf(int[] oneCase) {
        int[][] wanted = new int[n][n];
        for (int i = 0; i < n; i++) {
            for (int j = i + 1; j < n; j++) {
                int bit = 1 << number(i, j);
                wanted[i][j] = (oneCase[0] & bit) != 0 ? 1 : (oneCase[1] & bit) != 0 ? 2 : 0;
            }
        }
        return wanted;
    }

    boolean covers() {
        for (int[] row : allowed()) {
            boolean covered = false;
            for (int[] oneCase : cases) {
                covered |= agrees(row, marksOf(oneCase));
            }
            if (!covered) {
                return false;
            }
        }
        return true;
    }

    int caseBound(int k) {
        return k < 0 || k >= cases.size() ? -1 : bound(marksOf(cases.get(k)));
    }

    boolean proves(int value) {
        boolean proved = covers();
        for (int k = 0; k < cases.size(); k++) {
            int bound = caseBound(k);
            proved &= bound == NONE || bound >= value;
        }
        return proved;
    }
}
