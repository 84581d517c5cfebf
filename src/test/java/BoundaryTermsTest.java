/** Boundary cases of the document's terms: cities, edges, marks, tours, one-trees and the bound. */
public final class BoundaryTermsTest {
    private static final int BAD = OneTreeTours.BAD;
    private static final int NONE = OneTreeTours.NONE;

    public static void main(String[] args) {
        constants();
        citiesAreThreeToEight();
        edgesHaveNumbers();
        distancesReach();
        marksAreZeroAtFirst();
        potentialsAreZeroAtFirst();
        secondLessThanLast();
        lesserCityComesBefore();
        lastEdgeClosesTheRound();
        allRequiredAndNoForbidden();
        twoAtCityZero();
        othersAreJoined();
        potentialsOfBothEnds();
        leastSumOfPowers();
        boundIsLessTwiceTheSum();
        Check.finish();
    }

    /** "BAD = -1: A number is out of its range.", "NONE = -2000000: There is none." */
    private static void constants() {
        Check.due("BAD", -1, OneTreeTours.BAD);
        Check.due("NONE", -2000000, OneTreeTours.NONE);
        OneTreeTours x = new OneTreeTours();
        Check.due("there is none", -2000000, x.bound());
        Check.due("out of range", -1, x.degree(0));
    }

    /** "CITIES are numbered 0 .. n - 1, n being 3 .. 8 (or 0, before a text was loaded)." */
    private static void citiesAreThreeToEight() {
        for (int n = 3; n <= 8; n++) {
            OneTreeTours x = Texts.loaded(Texts.equal(n, 1));
            x.solve();
            for (int city = -2; city <= 10; city++) {
                boolean there = city >= 0 && city < n;
                Check.due("distance", there ? city == 0 ? 0 : 1 : BAD, x.distance(0, city));
                Check.due("degree of " + city, there, x.degree(city) != BAD);
                Check.due("tour at " + city, there ? city : BAD, x.tour(city));
                Check.due("lift of " + city, there, x.lift(city, 4));
                Check.due("potential of " + city, there ? 4 : 0, x.potential(city));
                Check.due("mark to " + city, there && city != 1, x.mark(1, city, 0));
            }
        }
        OneTreeTours x = new OneTreeTours();
        Check.due("none before a text was loaded", 0, x.size());
        Check.due("not even city 0", BAD, x.distance(0, 0));
        for (int n : new int[] {2, 9}) {
            Check.due("a text of " + n, -1, Texts.loadInto(x, Texts.equal(3, 1).replace(": 3", ": " + n)));
            Check.due("none then", 0, x.size());
        }
    }

    /** "edges have the NUMBERS 0, 1, ..: 0-1, 0-2, .., 0-(n-1), 1-2, 1-3, .. , (n-2)-(n-1)" */
    private static void edgesHaveNumbers() {
        for (int n = 4; n <= 8; n++) {
            int edge = 0;
            for (int i = 0; i < n; i++) {
                for (int j = i + 1; j < n; j++) {
                    numberIs(n, i, j, edge);
                    edge++;
                }
            }
            OneTreeTours x = Texts.loaded(Texts.equal(n, 1));
            Check.due("the last edge", 1, x.add(1 << (edge - 1), 0));
            Check.due("no edge behind it", BAD, x.add(1 << edge, 0));
        }
    }

    private static void numberIs(int n, int i, int j, int edge) {
        OneTreeTours x = Texts.loaded(Texts.equal(n, 1));
        x.mark(i, j, 1);
        for (int bit = 0; bit < n * (n - 1) / 2; bit++) {
            x.drop();
            x.add(1 << bit, 0);
            // Of four cities, a tour with an edge has that of the two others too.
            boolean due = bit == edge || n == 4 && bit == 5 - edge;
            Check.due(i + "-" + j + " of " + n + " has bit " + bit, due, x.covers());
        }
        x.mark(j, i, 2);
        x.drop();
        x.add(0, 1 << edge);
        Check.due("without " + i + "-" + j, true, x.covers());
        x.mark(j, i, 0);
        Check.due("with or without " + i + "-" + j, false, x.covers());
    }

    /** "Each has a DISTANCE, 0 .. 9999" */
    private static void distancesReach() {
        for (int n = 3; n <= 8; n++) {
            for (int apart : new int[] {0, 1, 9998, 9999}) {
                OneTreeTours x = Texts.loaded(Texts.equal(n, apart));
                Check.due("distance", apart, x.distance(n - 1, n - 2));
                Check.due("solve", n * apart, x.solve());
                Check.due("improve", n * apart, x.improve());
                Check.due("bound", n * apart, x.bound());
            }
        }
    }

    /** "all marks are 0 at first" */
    private static void marksAreZeroAtFirst() {
        int[] tours = {1, 3, 12, 60, 360, 2520};
        for (int n = 3; n <= 8; n++) {
            OneTreeTours x = Texts.loaded(Texts.equal(n, 5));
            Check.due("all tours are allowed", tours[n - 3], x.ties());
            Check.due("and all one-trees", 5 * n, x.bound());
        }
    }

    /** "Each city has a POTENTIAL, -100000 .. 100000, 0 at first." */
    private static void potentialsAreZeroAtFirst() {
        OneTreeTours x = Texts.loaded(Texts.equal(8, 5));
        for (int city = 0; city < 8; city++) {
            Check.due("at first", 0, x.potential(city));
            for (int v : new int[] {-100001, -100000, -99999, 0, 99999, 100000, 100001}) {
                boolean good = v >= -100000 && v <= 100000;
                int kept = x.potential(city);
                Check.due("lift to " + v, good, x.lift(city, v));
                Check.due("potential", good ? v : kept, x.potential(city));
            }
        }
    }

    private static void row(String told, OneTreeTours x, int... due) {
        for (int k = 0; k < due.length; k++) {
            Check.due(told + ", place " + k, due[k], x.tour(k));
        }
    }

    /** "begins with 0 and whose second city is less than its last one" */
    private static void secondLessThanLast() {
        OneTreeTours x = Texts.loaded(Texts.upper(3, "9 1 5"));
        Check.due("the one tour of three", 15, x.solve());
        row("three", x, 0, 1, 2);
        Check.due("the one tour of three, improved", 15, x.improve());
        row("three improved", x, 0, 1, 2);
        Check.due("it is one", 1, x.ties());
        // The only short round is 0 3 1 2, whose other end is the lesser one.
        x = Texts.loaded(Texts.upper(4, "9 1 1 1 1 9"));
        x.solve();
        row("turned", x, 0, 2, 1, 3);
        x.improve();
        row("turned", x, 0, 2, 1, 3);
        Check.due("both ways round are one tour", 1, x.ties());
    }

    /** "BEFORE another one comes the tour with the lesser city at the first place where they differ." */
    private static void lesserCityComesBefore() {
        OneTreeTours x = Texts.loaded(Texts.equal(5, 1));
        x.solve();
        row("of all twelve", x, 0, 1, 2, 3, 4);
        firstWithout(5, 2, 3, 0, 1, 2, 4, 3);
        firstWithout(5, 1, 2, 0, 1, 3, 2, 4);
        firstWithout(5, 3, 4, 0, 1, 3, 2, 4);
        firstWithout(5, 0, 1, 0, 2, 1, 3, 4);
        firstWithout(5, 0, 4, 0, 1, 2, 4, 3);
        firstWithout(8, 5, 6, 0, 1, 2, 3, 4, 5, 7, 6);
        firstWithout(8, 6, 7, 0, 1, 2, 3, 4, 6, 5, 7);
        firstWithout(8, 0, 1, 0, 2, 1, 3, 4, 5, 6, 7);
        x.mark(2, 3, 2);
        x.mark(2, 4, 2);
        x.solve();
        row("2 lies between 0 and 1", x, 0, 2, 1, 3, 4);
    }

    private static void firstWithout(int n, int i, int j, int... due) {
        OneTreeTours x = Texts.loaded(Texts.equal(n, 3));
        x.mark(i, j, 2);
        Check.due("as long as all", 3 * n, x.solve());
        row("the first without " + i + "-" + j, x, due);
    }

    /** "its edges are those of the cities that stand side by side, and that of the last and the first" */
    private static void lastEdgeClosesTheRound() {
        for (int n = 3; n <= 8; n++) {
            OneTreeTours x = Texts.loaded(ring(n));
            Check.due("the ring of " + n, n, x.solve());
            Check.due("is one", 1, x.ties());
            for (int k = 0; k < n; k++) {
                Check.due("place " + k, k, x.tour(k));
            }
            x.mark(0, n - 1, 1);
            Check.due("it has the last edge", n, x.solve());
            x.mark(0, n - 1, 2);
            Check.due("without it there is no ring", true, x.solve() != n);
        }
    }

    /** Cities in a ring, 1 from each to the next, and 7 otherwise. */
    private static String ring(int n) {
        StringBuilder data = new StringBuilder();
        for (int i = 0; i < n; i++) {
            for (int j = i + 1; j < n; j++) {
                data.append(j == i + 1 || i == 0 && j == n - 1 ? "1 " : "7 ");
            }
        }
        return Texts.upper(n, data.toString());
    }

    /** "It is ALLOWED if it has all required edges and no forbidden one." */
    private static void allRequiredAndNoForbidden() {
        OneTreeTours x = Texts.loaded(ring(5));
        for (int i = 0; i < 5; i++) {
            x.mark(i, (i + 1) % 5, 1);
        }
        Check.due("all edges of a tour are required", 5, x.solve());
        for (int i = 0; i < 5; i++) {
            x.mark(i, (i + 2) % 5, 2);
        }
        Check.due("and all others are forbidden", 5, x.solve());
        x.mark(3, 4, 2);
        Check.due("one of them is forbidden", NONE, x.solve());
        x.mark(3, 4, 1);
        x.mark(1, 3, 1);
        Check.due("one more is required", NONE, x.solve());
        x = Texts.loaded(ring(3));
        x.mark(0, 1, 1);
        x.mark(1, 2, 1);
        x.mark(2, 0, 1);
        Check.due("all of three", 3, x.solve());
        Check.due("the one-tree of three", 3, x.bound());
        x.mark(1, 0, 2);
        Check.due("but one", NONE, x.solve());
        Check.due("the one-tree but one", NONE, x.bound());
    }

    /** "two at city 0" */
    private static void twoAtCityZero() {
        for (int n = 3; n <= 8; n++) {
            OneTreeTours x = Texts.loaded(Texts.equal(n, 2));
            Check.due("degree of 0", 2, x.degree(0));
            x.lift(0, -100000);
            Check.due("degree of a cheap 0", 2, x.degree(0));
            x.lift(0, 100000);
            Check.due("degree of a dear 0", 2, x.degree(0));
            for (int city = 1; city < n; city++) {
                x.mark(0, city, 1);
                Check.due(city + " required at 0 of " + n, city <= 2 ? 2 * n : NONE, x.bound());
            }
            for (int city = 1; city < n; city++) {
                x.mark(0, city, 0);
            }
            for (int city = 1; city < n; city++) {
                x.mark(0, city, 2);
                Check.due(city + " forbidden at 0 of " + n, n - 1 - city >= 2 ? 2 * n : NONE, x.bound());
            }
        }
    }

    /** "and n - 1 - 1 others that join all other cities" */
    private static void othersAreJoined() {
        for (int n = 3; n <= 8; n++) {
            OneTreeTours x = Texts.loaded(Texts.equal(n, 2));
            int sum = 0;
            for (int city = 0; city < n; city++) {
                sum += x.degree(city);
            }
            Check.due("both ends of n edges", 2 * n, sum);
            for (int city = 1; city < n - 1; city++) {
                x.mark(city, n - 1, 2);
                Check.due(city + " ways to the last are forbidden", city < n - 2 ? 2 * n : NONE, x.bound());
            }
            // The edges at 0 join nothing.
            x.mark(0, n - 1, 1);
            Check.due("the way over 0 does not count", NONE, x.bound());
        }
        OneTreeTours x = Texts.loaded(Texts.equal(5, 2));
        x.mark(1, 2, 1);
        x.mark(2, 3, 1);
        Check.due("a row of three", 10, x.bound());
        x.mark(1, 3, 1);
        Check.due("a round of three, one edge too many", NONE, x.bound());
        x.mark(1, 3, 0);
        x.mark(3, 4, 1);
        Check.due("a row of four", 10, x.bound());
        x.mark(4, 1, 1);
        Check.due("a round of four", NONE, x.bound());
        x = Texts.loaded(Texts.equal(7, 2));
        for (int i = 1; i <= 3; i++) {
            for (int j = 4; j <= 6; j++) {
                Check.due("a way is left", 14, x.bound());
                x.mark(i, j, 2);
            }
        }
        Check.due("two parts of three", NONE, x.bound());
    }

    /** "Its WEIGHT is the sum of its edges' distances and of the potentials of both ends of each." */
    private static void potentialsOfBothEnds() {
        OneTreeTours x = Texts.loaded(Texts.upper(4, "1 2 3 10 20 30"));
        // 0-1, 0-2, 1-2, 1-3 weigh 33; city 1 has three edges, city 3 has one.
        Check.due("without potentials", 33, x.bound());
        x.lift(1, 1);
        Check.due("a city with three", 33 + 3 - 2, x.bound());
        x.lift(1, 0);
        x.lift(3, 1);
        Check.due("a city with one", 33 + 1 - 2, x.bound());
        x.lift(3, 0);
        x.lift(2, 1);
        Check.due("a city with two", 33, x.bound());
        x.lift(2, -100000);
        // Then 0-1, 0-2, 1-2 and 2-3 are least: city 2 has three.
        Check.due("the cheapest city", 1 + 2 + 10 + 30 - 100000, x.bound());
        x.lift(2, 100000);
        // Then 0-1, 0-3, 1-3 and 1-2 are least: city 2 has one.
        Check.due("the dearest city", 1 + 3 + 20 + 10 - 100000, x.bound());
    }

    /** "if several have that, the one whose edges' numbers e give the least sum of 2^e" */
    private static void leastSumOfPowers() {
        for (int n = 3; n <= 8; n++) {
            OneTreeTours x = Texts.loaded(Texts.equal(n, 0));
            // 0-1, 0-2 and 1-2 .. 1-(n-1) have the least numbers.
            Check.due("degree of 1 of " + n, n - 1, x.degree(1));
            Check.due("degree of 2 of " + n, 2, x.degree(2));
            for (int city = 3; city < n; city++) {
                Check.due("degree of " + city + " of " + n, 1, x.degree(city));
            }
        }
        // 1-2 weighs 1 less than the others; of these 1-3 and 1-4 have lesser numbers than 2-3, 2-4.
        OneTreeTours x = Texts.loaded(Texts.upper(5, "5 5 5 5 4 5 5 5 5 5"));
        degrees("with 1-2", x, 2, 4, 2, 1, 1);
        x = Texts.loaded(Texts.upper(5, "5 5 5 5 5 5 5 5 5 4"));
        // 3-4 is lighter; 1-2 and 1-3 come then, and 1-4 would close a round.
        degrees("with 3-4", x, 2, 3, 2, 2, 1);
        x = Texts.loaded(Texts.upper(5, "5 5 5 4 5 5 5 5 5 5"));
        degrees("with 0-4", x, 2, 4, 1, 1, 2);
        // The greatest number decides: 1-2, 2-3 are less than 1-2, 3-1 only where 3-1 is no choice.
        x = Texts.loaded(Texts.upper(4, "1 1 1 2 2 2"));
        degrees("all alike", x, 2, 3, 2, 1);
        x.mark(1, 2, 2);
        degrees("without 1-2", x, 2, 2, 2, 2);
        x.mark(1, 2, 0);
        x.mark(1, 3, 2);
        degrees("without 1-3", x, 2, 2, 3, 1);
    }

    private static void degrees(String told, OneTreeTours x, int... due) {
        for (int city = 0; city < due.length; city++) {
            Check.due(told + ", degree of " + city, due[city], x.degree(city));
        }
    }

    /** "The BOUND is its weight less twice the sum of all potentials." */
    private static void boundIsLessTwiceTheSum() {
        for (int n = 3; n <= 8; n++) {
            OneTreeTours x = Texts.loaded(Texts.equal(n, 9999));
            for (int v : new int[] {-100000, 100000}) {
                for (int city = 0; city < n; city++) {
                    x.lift(city, v);
                }
                Check.due("all at an end", 9999 * n, x.bound());
            }
            // City 1 has n - 1 edges, 2 has two, and the n - 3 others one each.
            x.lift(1, -100000);
            Check.due("the least bound of " + n, 9999 * n - 2 * (n - 3) * 100000, x.bound());
            x.lift(0, 0);
            Check.due("whatever 0 has", 9999 * n - 2 * (n - 3) * 100000, x.bound());
        }
    }
}
