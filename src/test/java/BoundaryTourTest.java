/** Boundary cases of promises 13 to 16, a sentence of the document each. */
public final class BoundaryTourTest {
    private static final int BAD = OneTreeTours.BAD;
    private static final int NONE = OneTreeTours.NONE;

    public static void main(String[] args) {
        solveTheLeast();
        solveTheFirstOfSeveral();
        solveNoneLeavesTheTour();
        tiesOfOneAndOfAll();
        tiesOfNone();
        improveWhateverTheMarks();
        improveGoesToTheNearest();
        improveOnlyWhatIsShorter();
        improveAtEachPlace();
        improveLeastPlaces();
        improveUntilNoneIsLeft();
        improveTurnsTheEnd();
        improveWithoutCities();
        tourPlaces();
        tourWhereNoneIs();
        tourIsTheNewest();
        Check.finish();
    }

    private static OneTreeTours upper(int n, String data) {
        return Texts.loaded(Texts.upper(n, data));
    }

    private static void row(String told, OneTreeTours x, int... due) {
        for (int k = 0; k < due.length; k++) {
            Check.due(told + ", place " + k, due[k], x.tour(k));
        }
        Check.due(told + ", behind", BAD, x.tour(due.length));
    }

    private static void forbidAllAtZeroBut(OneTreeTours x, int kept) {
        for (int city = 1; city < x.size(); city++) {
            x.mark(0, city, city == kept ? 0 : 2);
        }
    }

    /** "Looks for the allowed tour with the least length ...: its length; this is the tour then." */
    private static void solveTheLeast() {
        Check.due("three", 9999 * 3, upper(3, "9999 9999 9999").solve());
        Check.due("three in one place", 0, upper(3, "0 0 0").solve());
        Check.due("eight", 9999 * 8, Texts.loaded(Texts.equal(8, 9999)).solve());
        // Of the tours 0123, 0132, 0213 with 4, 5, 5 one by one is ruled out.
        OneTreeTours x = upper(4, "1 1 1 1 2 1");
        Check.due("the least", 4, x.solve());
        row("the least", x, 0, 1, 2, 3);
        x.mark(0, 2, 1);
        Check.due("the next", 5, x.solve());
        row("the next", x, 0, 1, 3, 2);
        x.mark(0, 1, 2);
        Check.due("the last", 5, x.solve());
        row("the last", x, 0, 2, 1, 3);
        x.mark(1, 2, 2);
        Check.due("none", NONE, x.solve());
        row("none, leaving the tour", x, 0, 2, 1, 3);
    }

    /** "of several the one that comes before all others" */
    private static void solveTheFirstOfSeveral() {
        for (int n = 3; n <= 8; n++) {
            OneTreeTours x = Texts.loaded(Texts.equal(n, 1));
            x.solve();
            for (int k = 0; k < n; k++) {
                Check.due("place " + k + " of " + n, k, x.tour(k));
            }
        }
        OneTreeTours x = upper(4, "2 1 2 1 1 1");
        Check.due("0123 has 6, 0132 and 0213 have 5", 5, x.solve());
        row("the second of three", x, 0, 1, 3, 2);
        x = upper(4, "1 1 1 1 1 2");
        Check.due("0213 alone is short", 4, x.solve());
        row("0213", x, 0, 2, 1, 3);
        x = upper(4, "1 1 1 2 1 1");
        Check.due("0132 alone is short", 4, x.solve());
        row("0132", x, 0, 1, 3, 2);
        x = upper(4, "1 1 2 1 1 1");
        Check.due("0132 alone has no 0-3", 4, x.solve());
        row("0132", x, 0, 1, 3, 2);
        x = upper(4, "2 3 2 2 2 1");
        Check.due("0123 with 7, 0132 with 8, 0213 with 9", 7, x.solve());
        row("0123", x, 0, 1, 2, 3);
    }

    /** "NONE, leaving the tour, when there is none." */
    private static void solveNoneLeavesTheTour() {
        OneTreeTours x = new OneTreeTours();
        Check.due("no cities", NONE, x.solve());
        Check.due("no tour", BAD, x.tour(0));
        for (int n = 3; n <= 8; n++) {
            x = Texts.loaded(Texts.equal(n, 2));
            forbidAllAtZeroBut(x, n - 1);
            Check.due("one edge at 0 of " + n, NONE, x.solve());
            Check.due("no tour was there", BAD, x.tour(0));
            x.mark(0, 1, 0);
            Check.due("two edges at 0 of " + n, 2 * n, x.solve());
            Check.due("0-1 and 0-" + (n - 1), 1, x.tour(1));
            Check.due("its end", n - 1, x.tour(n - 1));
            x.mark(0, 1, 2);
            Check.due("one edge at 0 again", NONE, x.solve());
            Check.due("the tour is left", 1, x.tour(1));
            Check.due("to its end", n - 1, x.tour(n - 1));
        }
    }

    /** "How many allowed tours have the least length that an allowed one has" */
    private static void tiesOfOneAndOfAll() {
        int[] all = {1, 3, 12, 60, 360, 2520};
        for (int n = 3; n <= 8; n++) {
            OneTreeTours x = Texts.loaded(Texts.equal(n, 0));
            Check.due("all of " + n, all[n - 3], x.ties());
            for (int k = 0; k < n; k++) {
                x.mark(k, (k + 1) % n, 1);
            }
            Check.due("one of " + n, 1, x.ties());
        }
        // 0123 and 0132 have 5, and 0213 has 4: only what is as short as the least allowed counts.
        OneTreeTours x = upper(4, "2 1 1 1 1 1");
        Check.due("the least", 1, x.ties());
        x.mark(0, 1, 1);
        Check.due("the two that are longer", 2, x.ties());
        x.mark(1, 2, 2);
        Check.due("one of them", 1, x.ties());
    }

    /** "0 when none is allowed" */
    private static void tiesOfNone() {
        Check.due("no cities", 0, new OneTreeTours().ties());
        for (int n = 3; n <= 8; n++) {
            OneTreeTours x = Texts.loaded(Texts.equal(n, 2));
            forbidAllAtZeroBut(x, 1);
            Check.due("none of " + n, 0, x.ties());
            forbidAllAtZeroBut(x, 1);
            x.mark(0, 2, 0);
            Check.due("some of " + n, true, x.ties() > 0);
        }
    }

    /** "Makes a tour, whatever the marks" */
    private static void improveWhateverTheMarks() {
        for (int n = 3; n <= 8; n++) {
            for (int mark = 0; mark <= 2; mark++) {
                OneTreeTours x = Texts.loaded(Texts.equal(n, 6));
                for (int i = 0; i < n; i++) {
                    for (int j = i + 1; j < n; j++) {
                        x.mark(i, j, mark);
                    }
                }
                Check.due("improve", 6 * n, x.improve());
                for (int k = 0; k < n; k++) {
                    Check.due("place " + k, k, x.tour(k));
                }
            }
        }
    }

    /** "from 0 on always the nearest city that was not yet met (of several as near, the least)" */
    private static void improveGoesToTheNearest() {
        OneTreeTours x = upper(4, "1 1 1 2 2 2");
        x.improve();
        row("all as near to 0", x, 0, 1, 2, 3);
        x = upper(4, "2 1 2 2 2 2");
        Check.due("2 is the nearest", 7, x.improve());
        row("then 1, the least", x, 0, 2, 1, 3);
        x = upper(4, "2 2 1 2 2 2");
        Check.due("3 is the nearest", 7, x.improve());
        row("then 1, turned", x, 0, 2, 1, 3);
        // 0 is nearer than all, but was met.
        x = upper(4, "0 0 0 3 2 1");
        Check.due("0 1 3 2", 3, x.improve());
        row("1 is followed by 3", x, 0, 1, 3, 2);
    }

    /** "such that turning round what stands from i to j makes the round of all cities shorter" */
    private static void improveOnlyWhatIsShorter() {
        // 0 1 2 3 and 0 1 3 2 are as long: 1 + 1 + 1 + 2 and 1 + 2 + 1 + 1.
        OneTreeTours x = upper(4, "1 1 2 1 2 1");
        Check.due("as long is not shorter", 5, x.improve());
        row("it is left", x, 0, 1, 2, 3);
        x = upper(4, "1 1 3 1 2 1");
        Check.due("shorter by one", 5, x.improve());
        row("it is turned", x, 0, 1, 3, 2);
        x = upper(4, "1 1 1 1 2 1");
        Check.due("longer by one", 4, x.improve());
        row("it stays", x, 0, 1, 2, 3);
    }

    /** "places i and j, 1 <= i < j <= n - 1 (the place of 0 is 0)" */
    private static void improveAtEachPlace() {
        // Each of these has just one turn that makes its first round shorter.
        OneTreeTours x = upper(5, "0 0 3 0 1 2 2 3 3 1");
        Check.due("from 1 to 2: 0 1 2 3 4 with 5", 4, x.improve());
        row("1 to 2", x, 0, 2, 1, 3, 4);
        x = upper(5, "2 7 5 2 1 7 4 8 8 8");
        Check.due("from 1 to 3: 0 1 2 3 4 with 21", 20, x.improve());
        row("1 to 3", x, 0, 3, 2, 1, 4);
        x = upper(5, "3 0 5 4 2 0 4 4 2 0");
        Check.due("from 2 to 4, round the end: 0 2 1 3 4 with 6", 5, x.improve());
        row("2 to 4", x, 0, 1, 3, 4, 2);
        x = upper(5, "0 7 0 2 9 3 1 3 7 5");
        Check.due("from 3 to 4, the end: 0 1 4 3 2 with 16", 11, x.improve());
        row("3 to 4", x, 0, 1, 4, 2, 3);
        x = upper(4, "8 6 3 8 3 1");
        Check.due("from 1 to 2 of four: 0 3 2 1 with 20", 18, x.improve());
        row("1 to 2 of four", x, 0, 1, 3, 2);
        x = upper(4, "2 1 3 1 0 1");
        Check.due("from 2 to 3 of four: 0 2 1 3 with 5", 4, x.improve());
        row("2 to 3 of four", x, 0, 1, 3, 2);
        x = upper(3, "1 9 9");
        Check.due("three have no turn", 19, x.improve());
        row("three", x, 0, 1, 2);
    }

    /** "this is done for the least such i, and with it the least j" */
    private static void improveLeastPlaces() {
        // 0 1 4 3 2 with 17: from 2 to 4, not from 3 to 4.
        OneTreeTours x = upper(5, "2 8 2 3 5 7 4 1 6 2");
        Check.due("the least i", 13, x.improve());
        row("the least i", x, 0, 1, 2, 3, 4);
        // 0 1 2 3 4 with 19: from 2 to 3, not from 2 to 4; then 0 1 3 2 4 from 2 to 4.
        x = upper(5, "2 4 9 9 3 7 6 0 0 5");
        Check.due("the least j", 17, x.improve());
        row("the least j", x, 0, 1, 4, 2, 3);
        // 0 1 5 2 4 3 with 7: from 2 to 5, though from 3 to 4 would have the lesser j.
        x = upper(6, "0 0 2 2 0 3 1 3 0 2 1 1 3 2 1");
        Check.due("the least i before the least j", 5, x.improve());
        row("the least i before the least j", x, 0, 2, 4, 3, 1, 5);
        // 0 2 1 4 3 with 20: from 1 to 3, though from 2 to 3 would gain more.
        x = upper(5, "6 5 7 7 1 3 2 2 1 5");
        Check.due("not what gains most", 18, x.improve());
        row("not what gains most", x, 0, 1, 4, 2, 3);
    }

    /** "as long as there are places" */
    private static void improveUntilNoneIsLeft() {
        // 0 4 1 2 3 with 12, then 0 2 1 4 3, 0 2 4 1 3 and 0 2 3 1 4 with 11, 10 and 8.
        OneTreeTours x = upper(5, "3 1 5 0 2 2 0 5 2 3");
        Check.due("three turns", 8, x.improve());
        row("three turns", x, 0, 2, 3, 1, 4);
        // 0 3 5 1 2 4 with 24, and then 22, 21, 19, 18, 15, 14.
        x = upper(6, "3 3 0 9 4 1 3 3 3 6 9 3 4 2 3");
        Check.due("six turns", 14, x.improve());
        row("six turns", x, 0, 1, 2, 5, 4, 3);
        Check.due("it begins anew each time", 14, x.improve());
        row("six turns again", x, 0, 1, 2, 5, 4, 3);
    }

    /** "In the end, when the second city is greater than the last one, all but 0 is turned round." */
    private static void improveTurnsTheEnd() {
        for (int n = 3; n <= 8; n++) {
            // From 0 down: 0 (n-1) (n-2) .. 1, where each lies 1 from the next, and 1 lies 2 from 0.
            StringBuilder data = new StringBuilder();
            for (int i = 0; i < n; i++) {
                for (int j = i + 1; j < n; j++) {
                    boolean next = j == i + 1 || i == 0 && j == n - 1;
                    data.append(i == 0 && j == 1 ? "2 " : next ? "1 " : "9 ");
                }
            }
            OneTreeTours x = upper(n, data.toString());
            Check.due("the ring of " + n, n + 1, x.improve());
            for (int k = 0; k < n; k++) {
                Check.due("place " + k + " of " + n, k, x.tour(k));
            }
        }
    }

    /** "NONE when there are no cities." */
    private static void improveWithoutCities() {
        OneTreeTours x = new OneTreeTours();
        Check.due("a new object", NONE, x.improve());
        Check.due("no tour", BAD, x.tour(0));
        Check.due("a text that is not good", -1, Texts.loadInto(x, "x\n"));
        Check.due("still none", NONE, x.improve());
        Check.due("three", 0, Texts.loadInto(x, Texts.equal(3, 1)));
        Check.due("then there is one", 3, x.improve());
    }

    /** "The city at a place of the tour (from 0); BAD when there is ... no such place." */
    private static void tourPlaces() {
        for (int n = 3; n <= 8; n++) {
            OneTreeTours x = Texts.loaded(Texts.equal(n, 1));
            for (int made = 0; made < 2; made++) {
                int length = made == 0 ? x.solve() : x.improve();
                Check.due("length", n, length);
                for (int k : new int[] {Integer.MIN_VALUE, -2, -1, n, n + 1, 8, 9, Integer.MAX_VALUE}) {
                    Check.due("place " + k + " of " + n, BAD, x.tour(k));
                }
                Check.due("place 0 of " + n, 0, x.tour(0));
                Check.due("the last place of " + n, n - 1, x.tour(n - 1));
            }
        }
    }

    /** "BAD when there is no tour" */
    private static void tourWhereNoneIs() {
        OneTreeTours x = Texts.loaded(Texts.equal(8, 1));
        Check.due("loaded, not looked for", BAD, x.tour(0));
        x.ties();
        x.bound();
        x.covers();
        x.ascend(1);
        Check.due("nothing makes it by the way", BAD, x.tour(0));
        x.solve();
        Check.due("there it is", 0, x.tour(0));
        Check.due("a load that is refused", -1, Texts.loadInto(x, ""));
        Check.due("leaves it", 7, x.tour(7));
        Texts.loadInto(x, Texts.equal(8, 1));
        for (int k = 0; k < 8; k++) {
            Check.due("a good load takes it away", BAD, x.tour(k));
        }
    }

    /** "This is the tour then" */
    private static void tourIsTheNewest() {
        // improve ends at 0 1 3 4 2 with 8, solve at 0 1 2 3 4 with 7.
        OneTreeTours x = upper(5, "0 3 4 0 3 3 3 4 2 0");
        for (int k = 0; k < 3; k++) {
            Check.due("improve", 8, x.improve());
            row("improve", x, 0, 1, 3, 4, 2);
            Check.due("solve", 7, x.solve());
            row("solve", x, 0, 1, 2, 3, 4);
        }
        x.mark(0, 1, 2);
        x.lift(0, 9);
        x.add(0, 0);
        x.drop();
        x.wipe();
        row("no other call moves it", x, 0, 1, 2, 3, 4);
    }
}
