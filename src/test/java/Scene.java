import java.util.List;
import java.util.function.Supplier;

/**
 * A state that an object can be in, and what a test must know of it: how many cities and cases
 * there are, whether there is a tour and an allowed one-tree, what load would answer, and how many
 * characters the text has room for.
 */
record Scene(String name, Supplier<OneTreeTours> maker, int cities, int cases, boolean tour,
        boolean oneTree, int load, int room) {
    private static final String FOUR = Texts.upper(4, "1 5 2 4 9 3");
    private static final String FIVE = Texts.upper(5, "11 25 32 47 53 64 78 86 91 10");
    private static final String HALF = "DIMENSION: 3\nEDGE_WEIGHT_TYPE: EUC_2D\nNODE_COORD_SECTION\n"
            + "1 7 -4\n2 0 0\n3 -999 999\n";

    static List<Scene> all() {
        return List.of(
                new Scene("a new object", OneTreeTours::new, 0, 0, false, false, -1, 480),
                new Scene("half a text", Scene::half, 0, 0, false, false, -7, 480 - HALF.length()),
                new Scene("a full text", Scene::fullText, 0, 0, false, false, 0, 0),
                new Scene("four cities", Scene::four, 4, 0, false, true, 0, 480 - FOUR.length()),
                new Scene("five cities", Scene::five, 5, 3, true, true, -7, 480 - HALF.length()),
                new Scene("no one-tree", Scene::noOneTree, 5, 2, true, false, -1, 480),
                new Scene("ten cases", Scene::tenCases, 4, 10, false, true, 0, 480 - FOUR.length()),
                new Scene("eight cities", Scene::eight, 8, 2, true, true, -2, 0));
    }

    OneTreeTours make() {
        return maker.get();
    }

    int edges() {
        return cities * (cities - 1) / 2;
    }

    private static OneTreeTours half() {
        OneTreeTours x = new OneTreeTours();
        Texts.write(x, HALF);
        return x;
    }

    private static OneTreeTours fullText() {
        OneTreeTours x = new OneTreeTours();
        Texts.write(x, Texts.filled(FOUR, 480));
        return x;
    }

    private static OneTreeTours four() {
        return Texts.loaded(FOUR);
    }

    /** Marks of both kinds, potentials above and below 0, a tour, cases, and a text not yet read. */
    private static OneTreeTours five() {
        OneTreeTours x = Texts.loaded(FIVE);
        x.mark(0, 3, 1);
        x.mark(2, 4, 2);
        x.lift(1, 6);
        x.lift(4, -9);
        x.improve();
        x.add(1 << 2, 1 << 5);
        x.add(0, 1 << 2);
        x.add(1 << 9, 0);
        x.wipe();
        Texts.write(x, HALF);
        return x;
    }

    private static OneTreeTours noOneTree() {
        OneTreeTours x = Texts.loaded(FIVE);
        x.solve();
        x.lift(0, 100000);
        x.lift(3, -100000);
        x.mark(0, 1, 2);
        x.mark(0, 2, 2);
        x.mark(0, 3, 2);
        x.mark(3, 4, 1);
        x.add(1 << 9, 7);
        x.add(3, 0);
        x.wipe();
        return x;
    }

    private static OneTreeTours tenCases() {
        OneTreeTours x = Texts.loaded(FOUR);
        for (int k = 0; k < 6; k++) {
            x.add(1 << k, 0);
        }
        for (int k = 0; k < 4; k++) {
            x.add(0, 1 << k);
        }
        x.lift(2, 3);
        x.mark(1, 3, 2);
        return x;
    }

    private static OneTreeTours eight() {
        OneTreeTours x = Texts.loaded(Texts.places("EUC_2D", 8,
                "1 0 0\n2 90 7\n3 31 55\n4 -62 8\n5 -9 -77\n6 44 -30\n7 -25 61\n8 70 70\n"));
        x.mark(6, 7, 1);
        x.mark(0, 5, 2);
        x.lift(7, 12);
        x.solve();
        x.add(1 << 27, 1);
        x.add(0, 1 << 27);
        x.wipe();
        Texts.write(x, Texts.filled("", 480));
        return x;
    }
}
