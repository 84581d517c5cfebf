import java.util.List;

/**
 * The whole class once more, face by face with the document: the text is a plain string that
 * GoodTexts judges, and all that needs cities is asked of a Reference, once there are some.
 */
final class Model {
    private static final int BAD = -1;
    private static final int NONE = -2000000;

    /** The trees of so many cities, which are dear to make. */
    private static final List<List<List<int[]>>> TREES = List.of(
            Reference.allTrees(3), Reference.allTrees(4), Reference.allTrees(5),
            Reference.allTrees(6), Reference.allTrees(7), Reference.allTrees(8));

    private String text = "";
    private Reference land = null;

    boolean write(long characters) {
        StringBuilder more = new StringBuilder();
        for (long rest = characters; rest != 0; rest >>>= 8) {
            int code = (int) (rest & 0xFF);
            boolean good = code == 10 || 32 <= code && code <= 126;
            if (!good && code != 0) {
                return false;
            }
            if (good) {
                more.append((char) code);
            }
        }
        if (text.length() + more.length() > 480) {
            return false;
        }
        text += more;
        return true;
    }

    void wipe() {
        text = "";
    }

    int load() {
        int answer = GoodTexts.dueOfLoad(text);
        if (answer == 0) {
            int[][] distance = GoodTexts.read(List.of(text.split("\n")));
            land = new Reference(distance, TREES.get(distance.length - 3));
        }
        return answer;
    }

    int size() {
        return land == null ? 0 : land.n;
    }

    private boolean isCity(int i) {
        return 0 <= i && i < size();
    }

    int distance(int i, int j) {
        return isCity(i) && isCity(j) ? land.distance[i][j] : BAD;
    }

    boolean mark(int i, int j, int mark) {
        boolean good = isCity(i) && isCity(j) && i != j && 0 <= mark && mark <= 2;
        if (good) {
            land.marks[Math.min(i, j)][Math.max(i, j)] = mark;
        }
        return good;
    }

    boolean lift(int city, int v) {
        boolean good = isCity(city) && -100000 <= v && v <= 100000;
        if (good) {
            land.potentials[city] = v;
        }
        return good;
    }

    int potential(int city) {
        return isCity(city) ? land.potentials[city] : 0;
    }

    int bound() {
        return land == null ? NONE : land.bound(land.marks);
    }

    int degree(int city) {
        return isCity(city) ? land.degree(city) : BAD;
    }

    int ascend(int step) {
        return land == null ? BAD : land.ascend(step);
    }

    int solve() {
        return land == null ? NONE : land.solve();
    }

    int ties() {
        return land == null ? 0 : land.ties();
    }

    int improve() {
        return land == null ? NONE : land.improve();
    }

    int tour(int k) {
        return isCity(k) && land.tour != null ? land.tour[k] : BAD;
    }

    int add(int with, int without) {
        return land == null ? BAD : land.add(with, without);
    }

    void drop() {
        if (land != null) {
            land.cases.clear();
        }
    }

    boolean covers() {
        return land != null && land.covers();
    }

    int caseBound(int k) {
        return land == null ? BAD : land.caseBound(k);
    }

    boolean proves(int value) {
        return land != null && land.proves(value);
    }

    int cases() {
        return land == null ? 0 : land.cases.size();
    }

    int edges() {
        return size() * (size() - 1) / 2;
    }
}
