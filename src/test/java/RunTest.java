import java.util.ArrayDeque;
import java.util.Deque;
import java.util.Random;

/**
 * All promises together, in runs of 512 calls of every kind, in any order and with any numbers: the
 * texts are written piece by piece among the other calls. Each answer is compared with the model's.
 */
public final class RunTest {
    private static final int CALLS = 512;
    private static final int[] ANY = {
        Integer.MIN_VALUE, Integer.MIN_VALUE + 1, -2000000, -100001, -100000, -1001, -1000, -9, -8,
        -7, -3, -2, -1, 0, 1, 2, 3, 4, 5, 6, 7, 8, 9, 10, 11, 27, 28, 31, 32, 63, 64, 999, 1000, 1001,
        9999, 99999, 100000, 100001, 1 << 16, 1 << 28, Integer.MAX_VALUE - 1, Integer.MAX_VALUE
    };

    private final Random random;
    private final SomeTexts texts;
    private final int most;
    private final int calm;
    private final OneTreeTours x = new OneTreeTours();
    private final Model model = new Model();
    private final Deque<Long> unwritten = new ArrayDeque<>();
    private final StringBuilder told = new StringBuilder();
    private int calls = 0;

    private RunTest(int seed, int most) {
        random = new Random(seed);
        texts = new SomeTexts(random);
        this.most = most;
        calm = new int[] {1, 4, 40}[random.nextInt(3)];
    }

    /** The arguments, if there are any: the first seed, and how many runs. */
    public static void main(String[] args) {
        int first = args.length > 0 ? Integer.parseInt(args[0]) : 1;
        int runs = args.length > 1 ? Integer.parseInt(args[1]) : 120;
        for (int seed = first; seed < first + runs && Check.wrong() == 0; seed++) {
            // Many cities take the model long, so they come seldom.
            new RunTest(seed, seed % 20 == 0 ? 8 : seed % 5 == 0 ? 7 : 6).run();
        }
        Check.finish();
    }

    private void run() {
        while (calls < CALLS && Check.wrong() == 0) {
            if (!unwritten.isEmpty() && random.nextInt(8) > 0) {
                writeOne(unwritten.remove());
            } else if (random.nextInt(model.size() == 0 ? 3 : 20 * calm) == 0) {
                beginText();
            } else {
                // What is loaded anew has no marks and no cases, so some runs seldom do it.
                int kind = random.nextInt(20);
                call(kind == 2 && random.nextInt(calm) > 0 ? 15 : kind);
            }
        }
        if (Check.wrong() > 0) {
            System.out.println("the run was: " + told);
        }
    }

    /** A text, mostly behind a wipe, to be written by the calls that follow. */
    private void beginText() {
        String text = texts.make(3 + random.nextInt(most - 2), Math.max(0, random.nextInt(5) - 2));
        unwritten.clear();
        for (int k = 0; k < text.length(); k += 8) {
            unwritten.add(Texts.pack(text.substring(k, Math.min(k + 8, text.length()))));
        }
        call(random.nextInt(8) == 0 ? 2 : 1);
    }

    private void writeOne(long characters) {
        same("write(" + characters + ")", model.write(characters), x.write(characters));
        if (unwritten.isEmpty() && calls < CALLS) {
            call(2);
        }
    }

    private void call(int kind) {
        switch (kind) {
            case 0 -> writeAnything();
            case 1 -> wipe();
            case 2 -> same("load()", model.load(), x.load());
            case 3 -> same("size()", model.size(), x.size());
            case 4 -> distance(city(), city());
            case 5 -> mark(city(), city(), random.nextInt(6) == 0 ? any() : random.nextInt(3));
            case 6 -> lift(city(), height());
            case 7 -> potential(city());
            case 8 -> same("bound()", model.bound(), x.bound());
            case 9 -> degree(city());
            case 10 -> ascend(random.nextInt(4) == 0 ? any() : 1 + random.nextInt(1000));
            case 11 -> same("solve()", model.solve(), x.solve());
            case 12 -> same("ties()", model.ties(), x.ties());
            case 13 -> same("improve()", model.improve(), x.improve());
            case 14 -> tour(city());
            case 15 -> addSome();
            case 16 -> dropSeldom();
            case 17 -> same("covers()", model.covers(), x.covers());
            case 18 -> caseBound(random.nextInt(5) == 0 ? any() : random.nextInt(model.cases() + 1));
            default -> proves(value());
        }
    }

    private void count(String call) {
        told.append(call).append(' ');
        calls++;
    }

    private void same(String call, long want, long got) {
        count(call);
        Check.due(call, want, got);
    }

    private void same(String call, boolean want, boolean got) {
        same(call, want ? 1 : 0, got ? 1 : 0);
    }

    private int any() {
        return random.nextInt(4) == 0 ? random.nextInt() : ANY[random.nextInt(ANY.length)];
    }

    private int city() {
        return random.nextInt(10) == 0 ? any() : random.nextInt(model.size() + 1);
    }

    private int height() {
        int[] spans = {2, 20, 10000, 100002};
        int span = spans[random.nextInt(spans.length)];
        return random.nextInt(6) == 0 ? any() : random.nextInt(2 * span + 1) - span;
    }

    /** Mostly near to the bound of a case, where proves is about to change its answer. */
    private int value() {
        if (model.cases() == 0 || random.nextInt(5) == 0) {
            return any();
        }
        return model.caseBound(random.nextInt(model.cases())) + random.nextInt(3) - 1;
    }

    /** Bits of edges for the most part, seldom any bit. */
    private int bits() {
        int bits = 0;
        for (int k = random.nextInt(3); k > 0; k--) {
            int bit = random.nextInt(12) == 0 || model.size() == 0 ? 32 : model.edges();
            bits |= 1 << random.nextInt(bit);
        }
        return random.nextInt(20) == 0 ? any() : bits;
    }

    private void writeAnything() {
        long characters = random.nextLong();
        if (random.nextBoolean()) {
            // Blanks, ends of lines and zeros only, so that something is added at times.
            characters = 0;
            for (int k = 0; k < 8; k++) {
                characters = characters << 8 | new int[] {0, 0, 0, 10, 32, 48}[random.nextInt(6)];
            }
        }
        same("write(" + characters + ")", model.write(characters), x.write(characters));
    }

    private void wipe() {
        count("wipe()");
        model.wipe();
        x.wipe();
    }

    /** Not as often as other calls, or the cases would never be many. */
    private void dropSeldom() {
        if (random.nextInt(4) == 0) {
            count("drop()");
            model.drop();
            x.drop();
        }
    }

    private void distance(int i, int j) {
        same("distance(" + i + ", " + j + ")", model.distance(i, j), x.distance(i, j));
    }

    private void mark(int i, int j, int mark) {
        same("mark(" + i + ", " + j + ", " + mark + ")", model.mark(i, j, mark), x.mark(i, j, mark));
    }

    private void lift(int city, int v) {
        same("lift(" + city + ", " + v + ")", model.lift(city, v), x.lift(city, v));
    }

    private void potential(int city) {
        same("potential(" + city + ")", model.potential(city), x.potential(city));
    }

    private void degree(int city) {
        same("degree(" + city + ")", model.degree(city), x.degree(city));
    }

    private void ascend(int step) {
        same("ascend(" + step + ")", model.ascend(step), x.ascend(step));
    }

    private void tour(int k) {
        same("tour(" + k + ")", model.tour(k), x.tour(k));
    }

    private void addSome() {
        int with = bits();
        int without = bits();
        same("add(" + with + ", " + without + ")", model.add(with, without), x.add(with, without));
    }

    private void caseBound(int k) {
        same("caseBound(" + k + ")", model.caseBound(k), x.caseBound(k));
    }

    private void proves(int value) {
        same("proves(" + value + ")", model.proves(value), x.proves(value));
    }
}
