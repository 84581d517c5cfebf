/** Promises 4 to 6: load, size, distance. */
public final class LoadTest {
    private static final String DIM = "DIMENSION: 3\n";
    private static final String EXPLICIT = "EDGE_WEIGHT_TYPE: EXPLICIT\n";
    private static final String FULL = DIM + EXPLICIT + "EDGE_WEIGHT_FORMAT: FULL_MATRIX\nEDGE_WEIGHT_SECTION\n";
    private static final String UPPER = DIM + EXPLICIT + "EDGE_WEIGHT_FORMAT: UPPER_ROW\nEDGE_WEIGHT_SECTION\n";
    private static final String LOWER = DIM + EXPLICIT + "EDGE_WEIGHT_FORMAT: LOWER_DIAG_ROW\nEDGE_WEIGHT_SECTION\n";
    private static final String PLACES = DIM + "EDGE_WEIGHT_TYPE: MAN_2D\nNODE_COORD_SECTION\n";

    public static void main(String[] args) {
        headLines();
        headOrder();
        sections();
        explicitData();
        formats();
        placeData();
        rounding();
        endOfText();
        whatLoadChanges();
        sizes();
        distances();
        Check.finish();
    }

    private static void load(String text, int want) {
        Check.due("load of\n" + text + "<<", want, Texts.loadInto(new OneTreeTours(), text));
    }

    private static void headLines() {
        load("COMMENT:\nCOMMENT: DIMENSION: 9\nCOMMENT:x", -3);
        load(" COMMENT:\n", -1);
        load("COMMENT\n", -1);
        load("comment:\n", -1);
        load("COMMEN\n", -1);
        load("\n", -1);
        load("   \n", -1);
        load("NAME: x\n", -1);
        for (int n = -1; n < 12; n++) {
            load("DIMENSION: " + n + "\n", n >= 3 && n <= 8 ? -2 : -1);
        }
        String[] good = {"03", "008", "0004"};
        String[] wrong = {"-3", "+3", "00003", "3.", "x", "-", "", "3 3", "--3", "3-", "0x3", "-0"};
        for (String told : good) {
            load("DIMENSION: " + told + "\n", -2);
        }
        for (String told : wrong) {
            load("DIMENSION: " + told + "\n", -1);
        }
        load("DIMENSION:3\n", -1);
        load("DIMENSION : 3\n", -1);
        load("DIMENSION 3\n", -1);
        load("  DIMENSION:   3  \n", -2);
        for (String type : new String[] {"EXPLICIT", "EUC_2D", "CEIL_2D", "MAN_2D"}) {
            load("EDGE_WEIGHT_TYPE: " + type + "\n", -2);
            load("EDGE_WEIGHT_TYPE: " + type + " x\n", -1);
            load("EDGE_WEIGHT_TYPE: " + type + "x\n", -1);
            load("EDGE_WEIGHT_TYPE: " + type.substring(1) + "\n", -1);
        }
        load("EDGE_WEIGHT_TYPE: MAX_2D\n", -1);
        load("EDGE_WEIGHT_TYPE: FULL_MATRIX\n", -1);
        load("EDGE_WEIGHT_TYPE:\n", -1);
        for (String format : new String[] {"FULL_MATRIX", "UPPER_ROW", "LOWER_DIAG_ROW"}) {
            load(EXPLICIT + "EDGE_WEIGHT_FORMAT: " + format + "\n", -3);
            load(EXPLICIT + "EDGE_WEIGHT_FORMAT: " + format + " 1\n", -2);
        }
        load(EXPLICIT + "EDGE_WEIGHT_FORMAT: LOWER_ROW\n", -2);
        load(EXPLICIT + "EDGE_WEIGHT_FORMAT:\n", -2);
    }

    private static void headOrder() {
        load(DIM + DIM, -2);
        load(DIM + "DIMENSION: 4\n", -2);
        load(EXPLICIT + EXPLICIT, -2);
        load("EDGE_WEIGHT_TYPE: EUC_2D\n" + EXPLICIT, -2);
        String format = "EDGE_WEIGHT_FORMAT: UPPER_ROW\n";
        load(format + EXPLICIT + DIM, -1);
        load(EXPLICIT + format + format, -3);
        load("EDGE_WEIGHT_TYPE: EUC_2D\n" + format, -2);
        load(EXPLICIT + "COMMENT: between\n" + format + DIM + "COMMENT:\nEDGE_WEIGHT_SECTION\n1 2 3\nEOF\n", 0);
        load(EXPLICIT + DIM + format + "EDGE_WEIGHT_SECTION\n1 2 3\nEOF\n", 0);
        load("EDGE_WEIGHT_TYPE: EUC_2D\n" + DIM + "NODE_COORD_SECTION\n1 0 0\n2 0 0\n3 0 0\nEOF\n", 0);
    }

    private static void sections() {
        load("EDGE_WEIGHT_SECTION\n", -1);
        load("NODE_COORD_SECTION\n", -1);
        load("EOF\n", -1);
        load(DIM + "EDGE_WEIGHT_SECTION\n", -2);
        load(DIM + "NODE_COORD_SECTION\n", -2);
        load(DIM + EXPLICIT + "EDGE_WEIGHT_SECTION\n", -3);
        load(EXPLICIT + "EDGE_WEIGHT_FORMAT: UPPER_ROW\nEDGE_WEIGHT_SECTION\n", -3);
        load("EDGE_WEIGHT_TYPE: EUC_2D\nNODE_COORD_SECTION\n", -2);
        String head = DIM + EXPLICIT + "EDGE_WEIGHT_FORMAT: UPPER_ROW\n";
        load(head + "NODE_COORD_SECTION\n", -4);
        load(head + "EDGE_WEIGHT_SECTION x\n", -4);
        load(head + "EOF\n", -4);
        load(head + "  EDGE_WEIGHT_SECTION  \n", -5);
        load(head + "EDGE_WEIGHT_SECTION:\n", -4);
        load(DIM + "EDGE_WEIGHT_TYPE: CEIL_2D\nEDGE_WEIGHT_SECTION\n", -3);
        load(DIM + "EDGE_WEIGHT_TYPE: CEIL_2D\n NODE_COORD_SECTION \n", -4);
    }

    private static void explicitData() {
        load(UPPER + "1 2 3\nEOF\n", 0);
        load(UPPER + "\n  \n1\n\n2 3\n\n \nEOF\n", 0);
        load(UPPER + "  1   2 \n 3\n  EOF \n", 0);
        load(UPPER + "0 0009 9999\nEOF\n", 0);
        load(UPPER + "1 2\nEOF\n", -6);
        load(UPPER + "EOF\n", -5);
        load(UPPER + "1 2 3 4\nEOF\n", -5);
        load(UPPER + "1 2 3\n4\nEOF\n", -6);
        load(UPPER + "1 2 3 EOF\n", -5);
        load(UPPER + "1 2 3\nEOF EOF\n", -6);
        load(UPPER + "1 2 3\nEOFx\n", -6);
        load(UPPER + "1 2 3\nEO\n", -6);
        load(UPPER + "1 2 3\nCOMMENT: no more\nEOF\n", -6);
        load(UPPER + "COMMENT: no more\n", -5);
        load(UPPER + "1 -2 3\nEOF\n", -5);
        load(UPPER + "-0 2 3\nEOF\n", -5);
        load(UPPER + "1 10000 3\nEOF\n", -5);
        load(UPPER + "1 00001 3\nEOF\n", -5);
        load(UPPER + "1 2x 3\nEOF\n", -5);
        load(UPPER + "1 2 /\n", -5);
        load(UPPER + "1 2 :\n", -5);
        load(UPPER + "1\n2\n", -7);
        load(UPPER + "1\n2", -6);
    }

    private static void formats() {
        load(FULL + "0 1 2 1 0 3 2 3 0\nEOF\n", 0);
        load(FULL + "0 1 2\n1 0 3\n2 3 0\nEOF\n", 0);
        load(FULL + "1 1 2\n", -5);
        load(FULL + "0 1 2\n1 1\n", -6);
        load(FULL + "0 1 2\n2 0 3\n", -6);
        load(FULL + "0 1 2\n1 0 3\n2\n4 0\nEOF\n", -8);
        load(FULL + "0 1 2\n1 0 3\n2\n3\n5\nEOF\n", -9);
        load(FULL + "0 1 2\n1 0 3\n2 3\nEOF\n", -8);
        load(FULL + "0 1 2\n01 00 3\n002 3 0000\nEOF\n", 0);
        load(FULL + "0 1 2\n1 0 3\n2 3 0 0\nEOF\n", -7);
        load(LOWER + "0\n1 0\n2 3 0\nEOF\n", 0);
        load(LOWER + "0 1 0 2 3 0\nEOF\n", 0);
        load(LOWER + "1\n", -5);
        load(LOWER + "0\n1 1\n", -6);
        load(LOWER + "0\n1 0\n2 3 4\n", -7);
        load(LOWER + "0\n1 0\n2 3\nEOF\n", -8);
        load(LOWER + "0\n1 0\n2 3 0\n0\nEOF\n", -8);
        String[] texts = {FULL + "0 1 2 1 0 3 2 3 0\nEOF\n", UPPER + "1 2 3\nEOF\n", LOWER + "0 1 0 2 3 0\nEOF\n"};
        for (String text : texts) {
            OneTreeTours x = Texts.loaded(text);
            Check.due("0-1", 1, x.distance(0, 1));
            Check.due("2-0", 2, x.distance(2, 0));
            Check.due("1-2", 3, x.distance(1, 2));
        }
    }

    private static void placeData() {
        String two = PLACES + "1 0 0\n2 -999 999\n";
        load(two + "3 1 1\nEOF\n", 0);
        load(two + " 003  -0   -0999 \n EOF \n", 0);
        load(two + "EOF\n", -6);
        load(two + "\n", -6);
        load(two + "3 1 1\n\nEOF\n", -7);
        load(two + "3 1 1\n4 1 1\nEOF\n", -7);
        load(two + "3 1 1 EOF\n", -6);
        load(two + "3 1\n1\n", -6);
        load(two + "3 1 1 1\n", -6);
        load(two + "4 1 1\n", -6);
        load(two + "2 1 1\n", -6);
        load(two + "-3 1 1\n", -6);
        load(two + "3 1000 1\n", -6);
        load(two + "3 -1000 1\n", -6);
        load(two + "3 1 1000\n", -6);
        load(two + "3 1 -1000\n", -6);
        load(two + "3 1 00001\n", -6);
        load(two + "3 1 -\n", -6);
        load(two + "3 - 1\n", -6);
        load(two + "3 1 1-\n", -6);
        load(two + "3 1 --1\n", -6);
        load(two + "3 1 -00001\n", -6);
        load(PLACES + "0 1 1\n", -4);
        load(PLACES + "\n1 1 1\n", -4);
        load(PLACES + "COMMENT:\n", -4);
    }

    private static void rounding() {
        rounded(0, 0, 0, 0, 0);
        rounded(3, 4, 5, 5, 7);
        rounded(1, 1, 1, 2, 2);
        rounded(1, 2, 2, 3, 3);
        rounded(2, 3, 4, 4, 5);
        rounded(-2, 4, 4, 5, 6);
        rounded(-4, -5, 6, 7, 9);
        rounded(2, 5, 5, 6, 7);
        rounded(999, 999, 1413, 1413, 1998);
        // The roots of k k + k and of k k + k + 1 lie on both sides of k and a half.
        rounded(1, 0, 1, 1, 1);
        rounded(6, 6, 8, 9, 12);
        rounded(3, 8, 9, 9, 11);
        rounded(0, 999, 999, 999, 999);
        OneTreeTours x = Texts.loaded(Texts.places("EUC_2D", 3, "1 -999 -999\n2 999 999\n3 -999 999\n"));
        Check.due("the farthest two places", 2826, x.distance(0, 1));
        Check.due("along one side", 1998, x.distance(2, 1));
        x = Texts.loaded(Texts.places("MAN_2D", 3, "1 -999 -999\n2 999 999\n3 -999 999\n"));
        Check.due("the farthest two places by streets", 3996, x.distance(1, 0));
    }

    private static void rounded(int dx, int dy, int nearest, int upwards, int streets) {
        String[] types = {"EUC_2D", "CEIL_2D", "MAN_2D"};
        int[] due = {nearest, upwards, streets};
        for (int k = 0; k < 3; k++) {
            String lines = "1 0 0\n2 " + dx + " " + dy + "\n3 " + -dx + " " + -dy + "\n";
            OneTreeTours x = Texts.loaded(Texts.places(types[k], 3, lines));
            Check.due(types[k] + " of " + dx + ", " + dy, due[k], x.distance(0, 1));
            Check.due(types[k] + " of " + -dx + ", " + -dy, due[k], x.distance(2, 0));
        }
    }

    private static void endOfText() {
        String good = UPPER + "1 2 3\nEOF\n";
        load(good, 0);
        load(good.substring(0, good.length() - 1), -6);
        load(good + "x", -7);
        load(good + " ", -7);
        load(good + "\n", -7);
        load(good + "COMMENT:\n", -7);
        load(good + "EOF\n", -7);
        load(good + good, -7);
        load("COMMENT:", -1);
        load(DIM.substring(0, 12), -1);
        load("nonsense\n" + good, -1);
        // A text that is too long to be ended may still begin a good one.
        String full = "DIMENSION: 8\n" + EXPLICIT + "EDGE_WEIGHT_FORMAT: FULL_MATRIX\nEDGE_WEIGHT_SECTION\n";
        load(full + "0" + " ".repeat(480 - full.length() - 2) + "\n", -6);
        load("COMMENT:" + "x".repeat(471) + "\n", -2);
        load("\n".repeat(480), -1);
        load(UPPER + "1 ".repeat((480 - UPPER.length()) / 2 - 1) + "\n", -5);
        load("x ".repeat(239) + "x\n", -1);
        load(UPPER + "\n".repeat(480 - UPPER.length()), -(4 + 480 - UPPER.length() + 1));
    }

    private static void whatLoadChanges() {
        OneTreeTours x = Texts.loaded(Texts.equal(4, 7));
        x.mark(0, 1, 2);
        x.mark(1, 2, 1);
        x.lift(2, 9);
        x.solve();
        x.add(1, 0);
        x.wipe();
        Texts.write(x, PLACES + "1 5 5\n2 6 6\n");
        Check.due("load of half a text", -6, x.load());
        Check.due("size is left", 4, x.size());
        Check.due("distance is left", 7, x.distance(0, 3));
        Check.due("potential is left", 9, x.potential(2));
        Check.due("marks are left", 1, x.ties());
        Check.due("the tour is left", 2, x.tour(1));
        Check.due("the case is left", 28 - 9, x.caseBound(0));
        Texts.write(x, "3 8 5\nEOF\n");
        Check.due("load of the whole text", 0, x.load());
        Check.due("size is new", 3, x.size());
        Check.due("distance is new", 2, x.distance(0, 1));
        Check.due("no city 3", OneTreeTours.BAD, x.distance(0, 3));
        Check.due("potential is 0", 0, x.potential(2));
        Check.due("marks are 0", 1, x.ties());
        Check.due("no tour", OneTreeTours.BAD, x.tour(0));
        Check.due("no case", OneTreeTours.BAD, x.caseBound(0));
        x.mark(0, 1, 2);
        x.solve();
        x.lift(0, 3);
        x.add(0, 0);
        Check.due("the same text again", 0, x.load());
        Check.due("marks are 0 again", 1, x.ties());
        Check.due("potential is 0 again", 0, x.potential(0));
        Check.due("no tour again", OneTreeTours.BAD, x.tour(0));
        Check.due("no case again", 1, x.add(0, 0));
    }

    private static void sizes() {
        OneTreeTours x = new OneTreeTours();
        for (int n = 3; n <= 8; n++) {
            Check.due("load of " + n, 0, Texts.loadInto(x, Texts.equal(n, n)));
            Check.due("size", n, x.size());
        }
    }

    private static void distances() {
        OneTreeTours x = Texts.loaded(Texts.upper(4, "1 2 3 4 5 9999"));
        int[][] due = {{0, 1, 2, 3}, {1, 0, 4, 5}, {2, 4, 0, 9999}, {3, 5, 9999, 0}};
        for (int i = -1; i <= 4; i++) {
            for (int j = -1; j <= 4; j++) {
                boolean cities = i >= 0 && i < 4 && j >= 0 && j < 4;
                Check.due("distance " + i + ", " + j, cities ? due[i][j] : -1, x.distance(i, j));
            }
        }
        Check.due("far off", -1, x.distance(2147483647, 0));
        Check.due("far below", -1, x.distance(0, -2147483648));
    }
}
