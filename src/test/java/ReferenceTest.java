import java.util.List;
import java.util.Random;

/** Promises 5 to 21 on many written runs of calls, each answer compared with the reference's. */
public final class ReferenceTest {
    private static final int CALLS = 400;

    private final Random random;
    private final OneTreeTours x = new OneTreeTours();
    private Reference due;
    private String told;

    private ReferenceTest(int seed) {
        random = new Random(seed);
    }

    public static void main(String[] args) {
        int[] runs = {40, 60, 60, 40, 12, 6};
        for (int n = 3; n <= 8; n++) {
            List<List<int[]>> trees = Reference.allTrees(n);
            for (int run = 0; run < runs[n - 3] && Check.wrong() < 20; run++) {
                new ReferenceTest(1000 * n + run).run(n, trees);
            }
        }
        Check.finish();
    }

    private void run(int n, List<List<int[]>> trees) {
        int[] spans = {1, 3, 10, 100, 9999};
        int span = spans[random.nextInt(spans.length)];
        int[][] distance = new int[n][n];
        StringBuilder data = new StringBuilder();
        for (int i = 0; i < n; i++) {
            for (int j = i + 1; j < n; j++) {
                distance[i][j] = random.nextInt(span + 1);
                distance[j][i] = distance[i][j];
                data.append(distance[i][j]).append(' ');
            }
        }
        due = new Reference(distance, trees);
        told = "n " + n + ", distances " + data + "seed run: ";
        Check.due(told + "load", 0, Texts.loadInto(x, Texts.upper(n, data.toString())));
        for (int k = 0; k < CALLS / n && Check.wrong() < 20; k++) {
            call(n);
        }
    }

    private void same(String call, long want, long got) {
        Check.due(told + call, want, got);
    }

    private void same(String call, boolean want, boolean got) {
        Check.due(told + call, want, got);
    }

    private void call(int n) {
        switch (random.nextInt(14)) {
            case 0, 1 -> markOne(n);
            case 2 -> liftOne(n);
            case 3 -> same("bound", due.bound(due.marks), x.bound());
            case 4 -> {
                int city = random.nextInt(n);
                same("degree " + city, due.degree(city), x.degree(city));
            }
            case 5 -> {
                int step = random.nextInt(3) == 0 ? 1000 : 1 + random.nextInt(5);
                same("ascend " + step, due.ascend(step), x.ascend(step));
                look(n);
            }
            case 6 -> {
                same("solve", due.solve(), x.solve());
                look(n);
            }
            case 7 -> same("ties", due.ties(), x.ties());
            case 8 -> {
                same("improve", due.improve(), x.improve());
                look(n);
            }
            case 9, 10 -> addOne();
            case 11 -> same("covers", due.covers(), x.covers());
            case 12 -> {
                int k = random.nextInt(due.cases.size() + 1);
                same("caseBound " + k, due.caseBound(k), x.caseBound(k));
            }
            default -> prove();
        }
    }

    private void look(int n) {
        for (int k = 0; k < n; k++) {
            same("potential " + k, due.potentials[k], x.potential(k));
            same("tour " + k, due.tour == null ? -1 : due.tour[k], x.tour(k));
        }
    }

    private void markOne(int n) {
        int i = random.nextInt(n);
        int j = random.nextInt(n);
        int mark = random.nextInt(5) % 3;
        same("mark " + i + ", " + j + ", " + mark, i != j, x.mark(i, j, mark));
        due.marks[Math.min(i, j)][Math.max(i, j)] = i == j ? 0 : mark;
    }

    private void liftOne(int n) {
        int[] spans = {2, 20, 10000, 100000};
        int span = spans[random.nextInt(spans.length)];
        int city = random.nextInt(n);
        int v = random.nextInt(2 * span + 1) - span;
        if (random.nextInt(8) == 0) {
            v = v < 0 ? -100000 : 100000;
        }
        same("lift " + city + ", " + v, true, x.lift(city, v));
        due.potentials[city] = v;
    }

    private void addOne() {
        if (random.nextInt(12) == 0) {
            x.drop();
            due.cases.clear();
        }
        int edges = due.edges();
        int with = 0;
        int without = 0;
        for (int k = random.nextInt(4); k > 0; k--) {
            int bit = 1 << random.nextInt(random.nextInt(10) == 0 ? 32 : edges);
            if (random.nextBoolean()) {
                with |= bit;
            } else {
                without |= bit;
            }
        }
        same("add " + with + ", " + without, due.add(with, without), x.add(with, without));
    }

    private void prove() {
        if (due.cases.isEmpty()) {
            return;
        }
        int value = due.caseBound(random.nextInt(due.cases.size())) + random.nextInt(3) - 1;
        same("proves " + value, due.proves(value), x.proves(value));
    }
}
