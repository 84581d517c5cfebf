/** Promises 7 to 12: mark, lift, potential, bound, degree, ascend. */
public final class BoundTest {
    private static final int NONE = OneTreeTours.NONE;
    private static final int BAD = OneTreeTours.BAD;
    private static final int[] WRONG = {-1, 5, 8, 32, -2147483648, 2147483647};

    public static void main(String[] args) {
        mark();
        lift();
        plainBound();
        boundUnderMarks();
        noOneTree();
        potentialsInBound();
        tiesOfOneTrees();
        ascend();
        ascendRefused();
        extremes();
        Check.finish();
    }

    /** Five cities; the numbers of the edges are their distances, from 1 on. */
    private static OneTreeTours five() {
        return Texts.loaded(Texts.upper(5, "1 2 3 4 5 6 7 8 9 10"));
    }

    private static void degrees(OneTreeTours x, int... due) {
        for (int city = 0; city < due.length; city++) {
            Check.due("degree of " + city, due[city], x.degree(city));
        }
        Check.due("degree beyond", BAD, x.degree(due.length));
        Check.due("degree below", BAD, x.degree(-1));
    }

    private static void mark() {
        OneTreeTours x = five();
        for (int wrong : WRONG) {
            Check.due("mark of " + wrong, false, x.mark(wrong, 0, 1));
            Check.due("mark to " + wrong, false, x.mark(0, wrong, 1));
            Check.due("mark with " + wrong, false, x.mark(0, 1, wrong));
        }
        Check.due("mark with 3", false, x.mark(0, 1, 3));
        Check.due("mark of one city", false, x.mark(2, 2, 1));
        Check.due("nothing was changed", 1 + 2 + 5 + 6 + 7, x.bound());
        Check.due("required", true, x.mark(4, 0, 1));
        Check.due("with 0-4", 1 + 4 + 5 + 6 + 7, x.bound());
        Check.due("refused", false, x.mark(0, 4, 3));
        Check.due("still with 0-4", 1 + 4 + 5 + 6 + 7, x.bound());
        Check.due("forbidden", true, x.mark(0, 1, 2));
        Check.due("with 0-4, without 0-1", 2 + 4 + 5 + 6 + 7, x.bound());
        Check.due("forbidden, what was required", true, x.mark(0, 4, 2));
        Check.due("without both", 2 + 3 + 5 + 6 + 7, x.bound());
        Check.due("required, what was forbidden", true, x.mark(1, 0, 1));
        Check.due("with 0-1", 1 + 2 + 5 + 6 + 7, x.bound());
        Check.due("required twice", true, x.mark(1, 0, 1));
        Check.due("with 0-1 still", 1 + 2 + 5 + 6 + 7, x.bound());
        Check.due("no mark", true, x.mark(4, 0, 0));
        x.mark(0, 1, 2);
        x.mark(0, 2, 2);
        Check.due("0-4 is free again", 3 + 4 + 5 + 6 + 7, x.bound());
    }

    private static void lift() {
        OneTreeTours x = five();
        Check.due("lift to the top", true, x.lift(0, 100000));
        Check.due("lift above", false, x.lift(0, 100001));
        Check.due("potential at the top", 100000, x.potential(0));
        Check.due("lift to the bottom", true, x.lift(4, -100000));
        Check.due("lift below", false, x.lift(4, -100001));
        Check.due("potential at the bottom", -100000, x.potential(4));
        Check.due("lift by the least", false, x.lift(4, -2147483648));
        Check.due("lift by the most", false, x.lift(4, 2147483647));
        for (int wrong : WRONG) {
            Check.due("lift of " + wrong, false, x.lift(wrong, 1));
            Check.due("potential of " + wrong, 0, x.potential(wrong));
        }
        for (int city = 1; city < 4; city++) {
            Check.due("others are 0", 0, x.potential(city));
        }
        Check.due("lift sets, it does not add", true, x.lift(0, -3));
        Check.due("potential", -3, x.potential(0));
    }

    private static void plainBound() {
        OneTreeTours x = five();
        Check.due("bound", 1 + 2 + 5 + 6 + 7, x.bound());
        degrees(x, 2, 4, 2, 1, 1);
        x = Texts.loaded(Texts.upper(3, "10 20 40"));
        Check.due("three cities have one one-tree", 70, x.bound());
        degrees(x, 2, 2, 2);
        x.mark(1, 2, 2);
        Check.due("and without 1-2 none", NONE, x.bound());
        x = Texts.loaded(Texts.equal(8, 9999));
        Check.due("eight cities, far apart", 8 * 9999, x.bound());
        x = Texts.loaded(Texts.equal(8, 0));
        Check.due("eight cities in one place", 0, x.bound());
    }

    private static void boundUnderMarks() {
        OneTreeTours x = five();
        x.mark(3, 4, 1);
        Check.due("with the longest", 1 + 2 + 5 + 6 + 10, x.bound());
        degrees(x, 2, 3, 2, 2, 1);
        x.mark(1, 2, 2);
        Check.due("without the shortest", 1 + 2 + 6 + 8 + 10, x.bound());
        degrees(x, 2, 2, 2, 3, 1);
        x.mark(0, 3, 1);
        x.mark(0, 4, 1);
        Check.due("both at 0 are required", 3 + 4 + 6 + 8 + 10, x.bound());
        degrees(x, 2, 1, 1, 4, 2);
    }

    private static void noOneTree() {
        OneTreeTours x = five();
        x.mark(0, 1, 1);
        x.mark(0, 2, 1);
        Check.due("two at 0", 21, x.bound());
        x.mark(0, 3, 1);
        Check.due("three at 0", NONE, x.bound());
        degrees(x, BAD, BAD, BAD, BAD, BAD);
        x = five();
        x.mark(1, 2, 1);
        x.mark(2, 3, 1);
        x.mark(0, 1, 1);
        x.mark(0, 3, 1);
        Check.due("a round through 0 is no hindrance", 1 + 3 + 5 + 8 + 7, x.bound());
        x.mark(1, 3, 1);
        Check.due("a round past 0", NONE, x.bound());
        x = five();
        x.mark(0, 1, 2);
        x.mark(0, 2, 2);
        Check.due("two left at 0", 3 + 4 + 5 + 6 + 7, x.bound());
        x.mark(0, 3, 2);
        Check.due("one left at 0", NONE, x.bound());
        x = five();
        x.mark(4, 1, 2);
        x.mark(4, 2, 2);
        Check.due("4 hangs on 3", 1 + 2 + 5 + 6 + 10, x.bound());
        x.mark(4, 3, 2);
        x.mark(4, 0, 1);
        Check.due("4 hangs on 0 alone", NONE, x.bound());
        degrees(x, BAD, BAD, BAD, BAD, BAD);
        Check.due("ascend", BAD, x.ascend(1));
    }

    private static void potentialsInBound() {
        OneTreeTours x = five();
        x.lift(1, 10);
        // 0-2, 0-3 and 2-3, 2-4, 1-2 weigh 2, 3, 8, 9, 15.
        Check.due("a dear city 1", 2 + 3 + 8 + 9 + 15 - 20, x.bound());
        degrees(x, 2, 1, 4, 2, 1);
        x.lift(1, -10);
        Check.due("a cheap city 1", 1 + 2 + 5 + 6 + 7 - 4 * 10 + 20, x.bound());
        x.lift(1, 0);
        for (int city = 0; city < 5; city++) {
            x.lift(city, 12345);
        }
        Check.due("all lifted by the same", 1 + 2 + 5 + 6 + 7, x.bound());
        degrees(x, 2, 4, 2, 1, 1);
        x.lift(0, -77);
        Check.due("city 0 has always two edges", 1 + 2 + 5 + 6 + 7, x.bound());
    }

    private static void tiesOfOneTrees() {
        OneTreeTours x = Texts.loaded(Texts.equal(5, 3));
        // 0-1, 0-2, 1-2, 1-3, 1-4 have the least numbers that fit.
        degrees(x, 2, 4, 2, 1, 1);
        x.mark(1, 4, 2);
        degrees(x, 2, 3, 3, 1, 1);
        x.mark(0, 1, 2);
        degrees(x, 2, 2, 3, 2, 1);
        x.mark(3, 4, 1);
        degrees(x, 2, 2, 2, 3, 1);
        // The least sum of powers leaves out the greatest number, whatever that costs below.
        x = Texts.loaded(Texts.upper(4, "5 5 5 1 2 2"));
        degrees(x, 2, 3, 2, 1);
        x = Texts.loaded(Texts.upper(4, "5 4 5 2 2 1"));
        degrees(x, 2, 2, 3, 1);
    }

    private static void ascend() {
        OneTreeTours x = five();
        // Then 0-2, 0-3 and 1-2, 1-3, 1-4 weigh 2, 2, 7, 7, 8, and the potentials sum up to 0.
        Check.due("ascend by 1", 26, x.ascend(1));
        int[] due = {0, 2, 0, -1, -1};
        for (int city = 0; city < 5; city++) {
            Check.due("potential of " + city, due[city], x.potential(city));
        }
        Check.due("the bound is the one then", 26, x.bound());
        x = five();
        x.ascend(1000);
        Check.due("a great step", 2000, x.potential(1));
        Check.due("a great step down", -1000, x.potential(4));
        Check.due("goes on from there", x.ascend(1000), x.bound());
        int sum = 0;
        for (int city = 0; city < 5; city++) {
            sum += x.potential(city);
        }
        Check.due("degrees have the mean 2", 0, sum);
        x = Texts.loaded(Texts.upper(3, "10 20 40"));
        Check.due("where the one-tree is a tour", 70, x.ascend(7));
        Check.due("nothing is lifted", 0, x.potential(2));
    }

    private static void ascendRefused() {
        OneTreeTours x = five();
        for (int step : new int[] {0, -1, 1001, -1000, 2147483647, -2147483648}) {
            Check.due("ascend by " + step, BAD, x.ascend(step));
        }
        Check.due("nothing was changed", 0, x.potential(1));
        x.mark(0, 1, 1);
        x.mark(0, 2, 1);
        x.mark(1, 2, 1);
        x.mark(1, 3, 1);
        x.mark(1, 4, 1);
        x.lift(4, -99999);
        // The required one-tree is the only one: 21, and each potential times its degree less 2.
        Check.due("down to the bottom", 21 + 2 * 2 + 1 + 100000, x.ascend(1));
        Check.due("it is there", -100000, x.potential(4));
        Check.due("below the bottom", BAD, x.ascend(1));
        Check.due("no city was changed", 2, x.potential(1));
        Check.due("nor that one", -1, x.potential(3));
        x.lift(4, 0);
        x.lift(1, 99998);
        Check.due("up to the top", true, x.ascend(1) != BAD);
        Check.due("top", 100000, x.potential(1));
        Check.due("above the top", BAD, x.ascend(1));
        Check.due("3 was left", -2, x.potential(3));
        Check.due("4 was left", -1, x.potential(4));
    }

    private static void extremes() {
        OneTreeTours x = Texts.loaded(Texts.equal(8, 0));
        x.lift(1, -100000);
        for (int city = 2; city < 8; city++) {
            x.lift(city, 100000);
        }
        Check.due("the least bound of all", -1000000, x.bound());
        degrees(x, 2, 7, 2, 1, 1, 1, 1, 1);
        for (int city = 0; city < 8; city++) {
            x.lift(city, 100000);
        }
        Check.due("all at the top", 0, x.bound());
        for (int city = 0; city < 8; city++) {
            x.lift(city, -100000);
        }
        Check.due("all at the bottom", 0, x.bound());
    }
}
