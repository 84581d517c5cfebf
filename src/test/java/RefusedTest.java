import java.util.Map;

/**
 * In many states, each call that is to be refused answers so and changes nothing, each call that
 * only asks changes nothing either, and each call that is done changes no more than it is to.
 */
public final class RefusedTest {
    private static final int BAD = OneTreeTours.BAD;
    private static final int NONE = OneTreeTours.NONE;
    private static final int LEAST = Integer.MIN_VALUE;
    private static final int MOST = Integer.MAX_VALUE;

    private final Scene scene;
    private final Map<String, String> before;

    private RefusedTest(Scene scene) {
        this.scene = scene;
        this.before = Look.behind(scene, Call.NOTHING);
    }

    public static void main(String[] args) {
        for (Scene scene : Scene.all()) {
            RefusedTest test = new RefusedTest(scene);
            test.sceneIsAsTold();
            test.refusedWrites();
            test.refusedLoad();
            test.wrongCities();
            test.wrongMarks();
            test.wrongPotentials();
            test.refusedAscents();
            test.refusedTours();
            test.refusedCases();
            test.questions();
            test.doneCalls();
        }
        fullTextRefusesMore();
        potentialsAtTheirEnds();
        Check.finish();
    }

    private void refused(String name, long want, Call call) {
        Check.due(scene.name() + ": " + name, want, call.on(scene.make()));
        changesOnly(name, call);
    }

    private void changesNothing(String name, Call call) {
        changesOnly(name, call);
    }

    private void changesOnly(String name, Call call, String... changed) {
        Map<String, String> after = Look.behind(scene, call);
        for (String part : before.keySet()) {
            boolean free = false;
            for (String one : changed) {
                // No answer but load's follows from the text.
                free |= part.equals(one) || part.equals(Look.ANSWERS) && !one.equals(Look.TEXT);
            }
            if (!free) {
                Check.same(scene.name() + ": " + name + ": " + part, before.get(part), after.get(part));
            }
        }
    }

    /** The other tests lean on what the scene says of itself. */
    private void sceneIsAsTold() {
        OneTreeTours x = scene.make();
        Check.due(scene.name() + ": size", scene.cities(), x.size());
        Check.due(scene.name() + ": a tour", scene.tour(), x.tour(0) == 0);
        Check.due(scene.name() + ": a one-tree", scene.oneTree(), x.bound() != NONE);
        for (int k = 0; k <= 10; k++) {
            Check.due(scene.name() + ": case " + k, k < scene.cases(), x.caseBound(k) != BAD);
        }
        Check.due(scene.name() + ": load", scene.load(), x.load());
        Check.due(scene.name() + ": room", scene.room(), Texts.room(scene.make()));
    }

    private void refusedWrites() {
        for (int code : new int[] {1, 9, 11, 31, 127, 128, 255}) {
            refused("write of the code " + code, 0, x -> Call.truth(x.write(code)));
            long last = Texts.pack("EOF\n 12") | (long) code << 56;
            refused("write with the last code " + code, 0, x -> Call.truth(x.write(last)));
        }
        refused("write of nothing but 255", 0, x -> Call.truth(x.write(-1)));
        changesNothing("write of nothing", x -> Call.truth(x.write(0)));
    }

    private void refusedLoad() {
        if (scene.load() != 0) {
            refused("load", scene.load(), x -> x.load());
        }
        String head = "DIMENSION: 3\nEDGE_WEIGHT_TYPE: MAN_2D\n";
        String places = head + "NODE_COORD_SECTION\n1 7 7\n2 8 8\n3 9 9\n";
        String data = Texts.upper(3, "7 8 9");
        spoiltLoad("", -1);
        spoiltLoad("DIM:\n", -1);
        spoiltLoad(head + "EDGE_WEIGHT_SECTION\n", -3);
        spoiltLoad(places + "4 7 7\n", -7);
        spoiltLoad(places + "EOF", -7);
        spoiltLoad(places + "EOF\nEOF\n", -8);
        spoiltLoad(data.replace("9", "x"), -5);
        spoiltLoad(data.replace("EOF", "COMMENT:"), -6);
    }

    private void spoiltLoad(String text, int want) {
        Call call = x -> Texts.loadInto(x, text);
        Check.due(scene.name() + ": load of\n" + text, want, call.on(scene.make()));
        changesOnly("load of\n" + text, call, Look.TEXT);
    }

    private void wrongCities() {
        for (int wrong : new int[] {-1, scene.cities(), scene.cities() + 1, 8, 32, LEAST, MOST}) {
            refused("distance from " + wrong, BAD, x -> x.distance(wrong, 0));
            refused("distance to " + wrong, BAD, x -> x.distance(0, wrong));
            refused("distance of " + wrong + " to itself", BAD, x -> x.distance(wrong, wrong));
            for (int mark = 0; mark <= 2; mark++) {
                int told = mark;
                refused("mark from " + wrong, 0, x -> Call.truth(x.mark(wrong, 1, told)));
                refused("mark to " + wrong, 0, x -> Call.truth(x.mark(1, wrong, told)));
            }
            refused("lift of " + wrong, 0, x -> Call.truth(x.lift(wrong, 5)));
            refused("potential of " + wrong, 0, x -> x.potential(wrong));
            refused("degree of " + wrong, BAD, x -> x.degree(wrong));
            refused("tour at " + wrong, BAD, x -> x.tour(wrong));
        }
    }

    private void wrongMarks() {
        for (int wrong : new int[] {-1, 3, 4, LEAST, MOST}) {
            refused("mark with " + wrong, 0, x -> Call.truth(x.mark(0, 1, wrong)));
            refused("mark back with " + wrong, 0, x -> Call.truth(x.mark(3, 2, wrong)));
        }
        for (int mark = 0; mark <= 2; mark++) {
            for (int city = 0; city < 8; city++) {
                int same = city;
                int told = mark;
                refused("mark of " + same + " to itself", 0, x -> Call.truth(x.mark(same, same, told)));
            }
        }
    }

    private void wrongPotentials() {
        for (int wrong : new int[] {-100001, 100001, LEAST, MOST}) {
            refused("lift of 0 to " + wrong, 0, x -> Call.truth(x.lift(0, wrong)));
            refused("lift of 2 to " + wrong, 0, x -> Call.truth(x.lift(2, wrong)));
        }
    }

    private void refusedAscents() {
        for (int wrong : new int[] {0, -1, -1000, 1001, LEAST, MOST}) {
            refused("ascend by " + wrong, BAD, x -> x.ascend(wrong));
        }
        if (!scene.oneTree()) {
            refused("ascend by 1", BAD, x -> x.ascend(1));
            refused("ascend by 1000", BAD, x -> x.ascend(1000));
            refused("bound", NONE, x -> x.bound());
            for (int city = 0; city < 8; city++) {
                int asked = city;
                refused("degree of " + city, BAD, x -> x.degree(asked));
            }
        }
    }

    private void refusedTours() {
        if (scene.cities() == 0) {
            refused("improve", NONE, x -> x.improve());
        }
        // In each of the scenes there are tours where there are one-trees.
        if (!scene.oneTree()) {
            refused("solve", NONE, x -> x.solve());
            refused("ties", 0, x -> x.ties());
        }
        if (!scene.tour()) {
            for (int k = 0; k < 8; k++) {
                int place = k;
                refused("tour at " + k, BAD, x -> x.tour(place));
            }
        }
    }

    private void refusedCases() {
        for (int bit = scene.edges(); bit < 32; bit++) {
            int wrong = 1 << bit;
            refused("add with bit " + bit, BAD, x -> x.add(wrong, 0));
            refused("add without bit " + bit, BAD, x -> x.add(0, wrong));
        }
        for (int bit = 0; bit < scene.edges(); bit++) {
            int same = 1 << bit;
            refused("add with and without bit " + bit, BAD, x -> x.add(same, same));
        }
        refused("add with all bits", BAD, x -> x.add(-1, 0));
        refused("add without all bits", BAD, x -> x.add(0, -1));
        if (scene.cities() == 0) {
            refused("add of nothing", BAD, x -> x.add(0, 0));
            refused("covers", 0, x -> Call.truth(x.covers()));
            refused("proves", 0, x -> Call.truth(x.proves(LEAST)));
        }
        if (scene.cases() == 10) {
            refused("add of an eleventh", NONE, x -> x.add(1, 2));
            refused("add of nothing as the eleventh", NONE, x -> x.add(0, 0));
        }
        for (int wrong : new int[] {-1, scene.cases(), 10, 11, LEAST, MOST}) {
            refused("caseBound of " + wrong, BAD, x -> x.caseBound(wrong));
        }
    }

    private void questions() {
        changesNothing("size", x -> x.size());
        changesNothing("distance", x -> x.distance(0, 1));
        changesNothing("potential", x -> x.potential(1));
        changesNothing("bound", x -> x.bound());
        changesNothing("degree", x -> x.degree(1));
        changesNothing("ties", x -> x.ties());
        changesNothing("tour", x -> x.tour(1));
        changesNothing("covers", x -> Call.truth(x.covers()));
        for (int k = 0; k < 10; k++) {
            int asked = k;
            changesNothing("caseBound", x -> x.caseBound(asked));
        }
        changesNothing("proves little", x -> Call.truth(x.proves(LEAST)));
        changesNothing("proves much", x -> Call.truth(x.proves(MOST)));
    }

    private void doneCalls() {
        changesOnly("wipe", RefusedTest::wipe, Look.TEXT);
        changesOnly("write", x -> Call.truth(x.write(Texts.pack("x"))), Look.TEXT);
        changesOnly("drop", RefusedTest::drop, Look.CASES);
        changesOnly("improve", x -> x.improve(), Look.TOUR);
        changesOnly("solve", x -> x.solve(), Look.TOUR);
        changesOnly("add", x -> x.add(1, 2), Look.CASES);
        changesOnly("ascend", x -> x.ascend(3), Look.POTENTIALS);
        changesOnly("lift", x -> Call.truth(x.lift(1, -77)), Look.POTENTIALS);
        for (int mark = 0; mark <= 2; mark++) {
            int told = mark;
            changesOnly("mark", x -> Call.truth(x.mark(3, 1, told)), Look.MARKS);
        }
    }

    private static long wipe(OneTreeTours x) {
        x.wipe();
        return 0;
    }

    private static long drop(OneTreeTours x) {
        x.drop();
        return 0;
    }

    /** One character too many, and more, told by any of the eight bytes. */
    private static void fullTextRefusesMore() {
        for (Scene scene : Scene.all()) {
            if (scene.room() == 0) {
                RefusedTest test = new RefusedTest(scene);
                for (int k = 0; k < 8; k++) {
                    long one = (long) '\n' << (8 * k);
                    test.refused("write of one more", 0, x -> Call.truth(x.write(one)));
                    long more = Texts.pack("EOF EOF\n") >>> (8 * k);
                    test.refused("write of " + (8 - k) + " more", 0, x -> Call.truth(x.write(more)));
                }
            }
        }
    }

    /** The one-tree is 0-1, 0-2, 1-2, 1-3, 1-4, so an ascent lifts 1 by two steps and lowers 3, 4. */
    private static OneTreeTours star(int city, int v) {
        OneTreeTours x = Texts.loaded(Texts.upper(5, "1 2 8 8 1 1 1 9 9 9"));
        x.mark(0, 1, 1);
        x.mark(0, 2, 1);
        x.mark(1, 2, 1);
        x.mark(1, 3, 1);
        x.mark(1, 4, 1);
        x.lift(city, v);
        x.improve();
        x.add(1, 0);
        return x;
    }

    private static void potentialsAtTheirEnds() {
        for (int step : new int[] {1, 2, 499, 1000}) {
            ascent(1, 100000 - 2 * step, step, 2);
            ascent(3, -100000 + step, step, -1);
            ascent(4, -100000 + step, step, -1);
            // What has two edges stays where it is, also at the very end.
            ascent(0, 100000, step, 0);
            ascent(0, -100000, step, 0);
            ascent(2, 100000, step, 0);
            ascent(2, -100000, step, 0);
        }
    }

    /** From v the city just reaches an end; one nearer to it, the ascent is refused. */
    private static void ascent(int city, int v, int step, int steps) {
        OneTreeTours x = star(city, v);
        String told = "ascend by " + step + " from " + v + " at " + city;
        Check.due(told + " is done", true, x.ascend(step) != BAD);
        Check.due(told, v + step * steps, x.potential(city));
        if (steps != 0) {
            int nearer = steps > 0 ? v + 1 : v - 1;
            Scene scene = new Scene("a star", () -> star(city, nearer), 5, 1, true, true, 0, 0);
            new RefusedTest(scene).refused(told + " and one", BAD, y -> y.ascend(step));
        }
    }
}
