/** Promises 13 to 16: solve, ties, improve, tour. */
public final class TourTest {
    private static final int NONE = OneTreeTours.NONE;
    private static final int BAD = OneTreeTours.BAD;

    public static void main(String[] args) {
        solve();
        firstOfSeveral();
        solveUnderMarks();
        noAllowedTour();
        ties();
        improve();
        improveTurns();
        improveForgetsMarks();
        potentialsDoNotMatter();
        tourPlaces();
        Check.finish();
    }

    private static void row(OneTreeTours x, int... due) {
        for (int k = 0; k < due.length; k++) {
            Check.due("place " + k + " of the tour", due[k], x.tour(k));
        }
        Check.due("behind the tour", BAD, x.tour(due.length));
        Check.due("before the tour", BAD, x.tour(-1));
    }

    private static void solve() {
        OneTreeTours x = Texts.loaded(Texts.upper(5, "9 1 9 1 1 9 1 1 9 9"));
        Check.due("no tour before", BAD, x.tour(0));
        // 0-2-1-4 is a round of short edges, but leaves out 3; 0-3-2-1-4 is as long.
        Check.due("solve", 13, x.solve());
        row(x, 0, 2, 3, 1, 4);
        x = Texts.loaded(Texts.upper(3, "10 20 40"));
        Check.due("three cities", 70, x.solve());
        row(x, 0, 1, 2);
        x = Texts.loaded(Texts.places("MAN_2D", 8,
                "1 0 0\n2 9 9\n3 0 3\n4 9 0\n5 3 9\n6 9 3\n7 3 0\n8 0 9\n"));
        Check.due("eight round a square", 36, x.solve());
        row(x, 0, 2, 7, 4, 1, 5, 3, 6);
        Check.due("eight, far apart", 0, Texts.loadInto(x, Texts.equal(8, 9999)));
        Check.due("length", 79992, x.solve());
    }

    private static void firstOfSeveral() {
        for (int n = 3; n <= 8; n++) {
            OneTreeTours x = Texts.loaded(Texts.equal(n, 4));
            Check.due("all tours are as long", 4 * n, x.solve());
            for (int k = 0; k < n; k++) {
                Check.due("the first of them", k, x.tour(k));
            }
        }
        OneTreeTours x = Texts.loaded(Texts.equal(5, 4));
        x.mark(1, 2, 2);
        x.solve();
        row(x, 0, 1, 3, 2, 4);
        x.mark(0, 1, 2);
        x.solve();
        row(x, 0, 2, 3, 1, 4);
        x.mark(2, 3, 2);
        x.solve();
        row(x, 0, 2, 4, 1, 3);
        x.mark(0, 2, 2);
        Check.due("1 and 2 would need 0", NONE, x.solve());
        x.mark(2, 3, 0);
        x.mark(3, 4, 2);
        x.solve();
        Check.due("2 and 1 lie between 3 and 4 alone", NONE, x.solve());
        x.mark(1, 2, 1);
        x.solve();
        row(x, 0, 3, 1, 2, 4);
    }

    private static void solveUnderMarks() {
        OneTreeTours x = Texts.loaded(Texts.upper(4, "1 5 1 1 5 1"));
        Check.due("round the square", 4, x.solve());
        row(x, 0, 1, 2, 3);
        Check.due("mark", true, x.mark(1, 3, 1));
        Check.due("with one diagonal", 12, x.solve());
        row(x, 0, 1, 3, 2);
        x.mark(0, 1, 2);
        Check.due("and without a side", 12, x.solve());
        row(x, 0, 2, 1, 3);
        x.mark(1, 3, 0);
        Check.due("without the side alone", 12, x.solve());
        x.mark(0, 1, 0);
        Check.due("without marks", 4, x.solve());
        row(x, 0, 1, 2, 3);
    }

    private static void noAllowedTour() {
        OneTreeTours x = Texts.loaded(Texts.upper(4, "1 5 1 1 5 1"));
        x.mark(0, 1, 2);
        x.mark(0, 2, 2);
        Check.due("one edge left at 0", NONE, x.solve());
        Check.due("no tour", BAD, x.tour(0));
        Check.due("ties", 0, x.ties());
        x.mark(0, 1, 0);
        x.mark(0, 2, 0);
        x.solve();
        x.mark(0, 1, 1);
        x.mark(1, 2, 1);
        x.mark(0, 2, 1);
        Check.due("a short round is required", NONE, x.solve());
        Check.due("ties", 0, x.ties());
        row(x, 0, 1, 2, 3);
    }

    private static void ties() {
        int[] due = {1, 3, 12, 60, 360, 2520};
        for (int n = 3; n <= 8; n++) {
            Check.due("ties of " + n, due[n - 3], Texts.loaded(Texts.equal(n, 1)).ties());
        }
        OneTreeTours x = Texts.loaded(Texts.upper(4, "1 5 1 1 5 1"));
        Check.due("one is least", 1, x.ties());
        Check.due("ties makes no tour", BAD, x.tour(0));
        x.mark(0, 1, 1);
        Check.due("it has 0-1", 1, x.ties());
        x.mark(0, 1, 2);
        Check.due("one has not", 1, x.ties());
        x.mark(0, 1, 0);
        x.mark(0, 2, 1);
        Check.due("two have 0-2", 2, x.ties());
        x = Texts.loaded(Texts.equal(8, 0));
        x.mark(0, 1, 2);
        Check.due("2520 less 720", 1800, x.ties());
        x.mark(0, 1, 1);
        Check.due("two of seven at 0", 720, x.ties());
    }

    private static void improve() {
        OneTreeTours x = Texts.loaded(Texts.equal(6, 2));
        Check.due("all as near", 12, x.improve());
        row(x, 0, 1, 2, 3, 4, 5);
        // The nearest is 3, from there 1, then 2; this is least already, but stands turned.
        x = Texts.loaded(Texts.upper(4, "4 3 1 3 1 4"));
        Check.due("nearest", 8, x.improve());
        row(x, 0, 2, 1, 3);
        x = Texts.loaded(Texts.upper(3, "5 1 1"));
        Check.due("three", 7, x.improve());
        row(x, 0, 1, 2);
    }

    private static void improveTurns() {
        // The way to the nearest is 0 1 2 3 with 1 + 1 + 1 + 9; turning 2 .. 3 makes 0 1 3 2.
        OneTreeTours x = Texts.loaded(Texts.upper(4, "1 2 9 1 2 1"));
        Check.due("improve", 6, x.improve());
        row(x, 0, 1, 3, 2);
        // A tour that turning cannot make shorter, though a shorter one is there.
        // It goes from 0 1 2 4 3 with 9, past turns that make it longer, to 0 1 3 4 2 with 8.
        x = Texts.loaded(Texts.upper(5, "0 3 4 0 3 3 3 4 2 0"));
        Check.due("improve stops above the least", 8, x.improve());
        row(x, 0, 1, 3, 4, 2);
        Check.due("the least", 7, x.solve());
        row(x, 0, 1, 2, 3, 4);
    }

    private static void improveForgetsMarks() {
        OneTreeTours x = Texts.loaded(Texts.upper(4, "1 5 1 1 5 1"));
        x.mark(0, 1, 2);
        x.mark(0, 3, 2);
        Check.due("no allowed tour", NONE, x.solve());
        Check.due("improve all the same", 4, x.improve());
        row(x, 0, 1, 2, 3);
        Check.due("solve leaves that tour", NONE, x.solve());
        row(x, 0, 1, 2, 3);
    }

    private static void potentialsDoNotMatter() {
        OneTreeTours x = Texts.loaded(Texts.upper(4, "1 5 1 1 5 1"));
        x.lift(1, 1000);
        x.lift(2, -1000);
        Check.due("solve", 4, x.solve());
        Check.due("ties", 1, x.ties());
        Check.due("improve", 4, x.improve());
    }

    private static void tourPlaces() {
        OneTreeTours x = Texts.loaded(Texts.equal(8, 1));
        Check.due("no tour", BAD, x.tour(0));
        x.improve();
        row(x, 0, 1, 2, 3, 4, 5, 6, 7);
        Check.due("far off", BAD, x.tour(2147483647));
        Check.due("far below", BAD, x.tour(-2147483648));
        x.mark(0, 1, 2);
        row(x, 0, 1, 2, 3, 4, 5, 6, 7);
        x.solve();
        Check.due("the tour is the newest one", 2, x.tour(1));
        Texts.loadInto(x, Texts.equal(5, 1));
        Check.due("load takes the tour away", BAD, x.tour(0));
        x.solve();
        row(x, 0, 1, 2, 3, 4);
    }
}
