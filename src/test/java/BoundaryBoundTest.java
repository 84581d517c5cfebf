/** Boundary cases of promises 7 to 12, a sentence of the document each. */
public final class BoundaryBoundTest {
    private static final int BAD = OneTreeTours.BAD;
    private static final int NONE = OneTreeTours.NONE;

    public static void main(String[] args) {
        markOfAnEdge();
        markRefused();
        markOverMark();
        liftToTheEnds();
        liftRefused();
        potentialOfNoCity();
        boundNone();
        boundNotNone();
        degreeBad();
        ascendAdds();
        ascendSteps();
        ascendWithoutOneTree();
        ascendPastTheEnds();
        ascendAnswersTheBoundThen();
        Check.finish();
    }

    /** Edge e of n cities lies 2^e apart, so that a bound tells the edges of its one-tree. */
    private static OneTreeTours powers(int n) {
        StringBuilder data = new StringBuilder();
        for (int e = 0; e < n * (n - 1) / 2; e++) {
            data.append(1 << e).append(' ');
        }
        return Texts.loaded(Texts.upper(n, data.toString()));
    }

    /** "Sets the mark of an edge (0 .. 2): true" */
    private static void markOfAnEdge() {
        int e = 0;
        for (int i = 0; i < 5; i++) {
            for (int j = i + 1; j < 5; j++) {
                OneTreeTours x = powers(5);
                int free = x.bound();
                Check.due("required", true, x.mark(i, j, 1));
                Check.due(i + "-" + j + " is there", 1, x.bound() >> e & 1);
                Check.due("forbidden", true, x.mark(j, i, 2));
                Check.due(i + "-" + j + " is not there", 0, x.bound() >> e & 1);
                Check.due("no mark", true, x.mark(i, j, 0));
                Check.due("the bound as before", free, x.bound());
                Check.due("no mark twice", true, x.mark(j, i, 0));
                Check.due("the bound is left", free, x.bound());
                e++;
            }
        }
    }

    /** "false, changing nothing, when i or j is no city, they are the same, or mark is not 0 .. 2" */
    private static void markRefused() {
        for (int n = 3; n <= 5; n++) {
            OneTreeTours x = powers(n);
            x.mark(0, 1, 1);
            int bound = x.bound();
            for (int wrong : new int[] {-1, n, n + 1, Integer.MIN_VALUE, Integer.MAX_VALUE}) {
                Check.due("i is " + wrong, false, x.mark(wrong, 1, 2));
                Check.due("j is " + wrong, false, x.mark(0, wrong, 2));
                Check.due("both are " + wrong, false, x.mark(wrong, wrong, 2));
            }
            for (int city = 0; city < n; city++) {
                Check.due("the same, " + city, false, x.mark(city, city, 2));
            }
            for (int wrong : new int[] {-1, 3, 257, -254, Integer.MIN_VALUE, Integer.MAX_VALUE}) {
                Check.due("mark " + wrong, false, x.mark(0, 1, wrong));
            }
            Check.due("nothing was changed", bound, x.bound());
            Check.due("the last city is one", true, x.mark(n - 1, n - 2, 1));
        }
    }

    /** "a MARK: 0 none, 1 REQUIRED, 2 FORBIDDEN": an edge has one of them. */
    private static void markOverMark() {
        int[] due = {1 + 2 + 8 + 16, 2 + 4 + 8 + 16, 1 + 4 + 8 + 16};
        for (int first = 0; first <= 2; first++) {
            for (int then = 0; then <= 2; then++) {
                OneTreeTours x = powers(4);
                x.mark(0, 3, first);
                x.mark(3, 0, then);
                // 0-3 has the number 2.
                Check.due(first + " then " + then, then == 1 ? 1 + 4 + 8 + 16 : 1 + 2 + 8 + 16, x.bound());
                x = powers(4);
                x.mark(0, 1, first);
                x.mark(1, 0, then);
                Check.due(first + " then " + then, then == 2 ? due[1] : due[0], x.bound());
            }
        }
    }

    /** "Sets the potential of a city: true" */
    private static void liftToTheEnds() {
        OneTreeTours x = powers(4);
        for (int city = 0; city < 4; city++) {
            for (int v : new int[] {100000, -100000, 99999, -99999, 1, -1, 0}) {
                Check.due("lift", true, x.lift(city, v));
                for (int other = 0; other < 4; other++) {
                    Check.due("potential of " + other, other == city ? v : 0, x.potential(other));
                }
            }
        }
    }

    /** "false, changing nothing, when there is no such city or v is not -100000 .. 100000" */
    private static void liftRefused() {
        OneTreeTours x = powers(4);
        for (int city = 0; city < 4; city++) {
            x.lift(city, 10 + city);
        }
        for (int v : new int[] {-100001, 100001, -100002, Integer.MIN_VALUE, Integer.MAX_VALUE}) {
            for (int city = 0; city < 4; city++) {
                Check.due("lift to " + v, false, x.lift(city, v));
            }
        }
        for (int wrong : new int[] {-1, 4, 5, 7, 8, Integer.MIN_VALUE, Integer.MAX_VALUE}) {
            for (int v : new int[] {0, 1, -100000, 100000}) {
                Check.due("lift of " + wrong, false, x.lift(wrong, v));
            }
        }
        for (int city = 0; city < 4; city++) {
            Check.due("nothing was changed", 10 + city, x.potential(city));
        }
    }

    /** "The potential of a city; 0 when there is none." */
    private static void potentialOfNoCity() {
        Check.due("no cities", 0, new OneTreeTours().potential(0));
        OneTreeTours x = Texts.loaded(Texts.equal(8, 1));
        for (int city = 0; city < 8; city++) {
            x.lift(city, 6);
        }
        for (int wrong : new int[] {-1, 8, 9, Integer.MIN_VALUE, Integer.MAX_VALUE}) {
            Check.due("potential of " + wrong, 0, x.potential(wrong));
        }
        Check.due("the last one", 6, x.potential(7));
        Texts.loadInto(x, Texts.equal(3, 1));
        for (int city = 0; city < 8; city++) {
            Check.due("0 behind a load", 0, x.potential(city));
        }
        x.lift(2, -5);
        Check.due("the last of three", -5, x.potential(2));
        Check.due("none behind it", 0, x.potential(3));
    }

    /** "NONE when there is no allowed one-tree" */
    private static void boundNone() {
        Check.due("no cities", NONE, new OneTreeTours().bound());
        for (int n = 3; n <= 8; n++) {
            OneTreeTours x = Texts.loaded(Texts.equal(n, 1));
            for (int i = 0; i < n; i++) {
                for (int j = i + 1; j < n; j++) {
                    x.mark(i, j, 2);
                }
            }
            Check.due("all of " + n + " are forbidden", NONE, x.bound());
            for (int i = 0; i < n; i++) {
                for (int j = i + 1; j < n; j++) {
                    x.mark(i, j, 1);
                }
            }
            Check.due("all of " + n + " are required", n == 3 ? 3 : NONE, x.bound());
        }
    }

    /** The bound where just one one-tree is allowed, told by what is required or by what is left. */
    private static void boundNotNone() {
        for (int n = 3; n <= 8; n++) {
            OneTreeTours only = Texts.loaded(Texts.equal(n, 4));
            OneTreeTours left = Texts.loaded(Texts.equal(n, 4));
            for (int i = 0; i < n; i++) {
                for (int j = i + 1; j < n; j++) {
                    // The last two at 0, and all others hang on the last city.
                    boolean in = i == 0 ? j >= n - 2 : j == n - 1;
                    only.mark(i, j, in ? 1 : 0);
                    left.mark(i, j, in ? 0 : 2);
                }
            }
            Check.due("only one of " + n + " has what is required", 4 * n, only.bound());
            Check.due("only one of " + n + " is left", 4 * n, left.bound());
            Check.due("degree of the last", n - 1, only.degree(n - 1));
            Check.due("degree of the last", n - 1, left.degree(n - 1));
            left.mark(0, n - 1, 2);
            Check.due("none is left", NONE, left.bound());
            // With three cities all edges are required already.
            only.mark(0, 1, 1);
            Check.due("one too many is required", n == 3 ? 4 * n : NONE, only.bound());
        }
    }

    /** "BAD when there is no such city or no allowed one-tree" */
    private static void degreeBad() {
        Check.due("no cities", BAD, new OneTreeTours().degree(0));
        for (int n = 3; n <= 8; n++) {
            OneTreeTours x = Texts.loaded(Texts.equal(n, 4));
            for (int wrong : new int[] {-1, n, n + 1, 8, Integer.MIN_VALUE, Integer.MAX_VALUE}) {
                Check.due("degree of " + wrong, BAD, x.degree(wrong));
            }
            Check.due("degree of the last", n == 3 ? 2 : 1, x.degree(n - 1));
            Check.due("degree of the first", 2, x.degree(0));
            for (int city = 1; city < n - 1; city++) {
                x.mark(0, city, 2);
            }
            for (int city = -1; city <= n; city++) {
                Check.due("degree of " + city + " where one edge is left at 0", BAD, x.degree(city));
            }
        }
    }

    /** Four cities with the one-tree 0-1, 0-2, 1-2, 1-3 at first: degrees 2, 3, 2, 1. */
    private static OneTreeTours four() {
        return Texts.loaded(Texts.upper(4, "1 2 3 10 20 30"));
    }

    /** "to the potential of each city, step times (its degree - 2) is added" */
    private static void ascendAdds() {
        OneTreeTours x = four();
        for (int city = 0; city < 4; city++) {
            x.lift(city, 100 * city);
        }
        x.mark(0, 1, 1);
        x.mark(0, 2, 1);
        x.mark(1, 2, 1);
        x.mark(1, 3, 1);
        // It has to be this one-tree, which weighs 33 and gains 100 (3 - 2) + 300 (1 - 2).
        Check.due("bound", 33 + 100 - 300, x.bound());
        Check.due("ascend", 33 + 107 - 293, x.ascend(7));
        int[] due = {0, 107, 200, 293};
        for (int city = 0; city < 4; city++) {
            Check.due("potential of " + city, due[city], x.potential(city));
        }
        // Where all degrees are 2, nothing is added.
        x = Texts.loaded(Texts.equal(3, 5));
        x.lift(1, 9);
        Check.due("a tour", 15, x.ascend(1000));
        Check.due("stays", 9, x.potential(1));
    }

    /** "BAD, changing nothing, when step is not 1 .. 1000" */
    private static void ascendSteps() {
        for (int step : new int[] {Integer.MIN_VALUE, -1000, -1, 0, 1, 2, 999, 1000, 1001, 2000, Integer.MAX_VALUE}) {
            OneTreeTours x = four();
            boolean good = step >= 1 && step <= 1000;
            int answer = x.ascend(step);
            Check.due("ascend by " + step, good, answer != BAD);
            Check.due("its answer", good ? x.bound() : BAD, answer);
            Check.due("up", good ? step : 0, x.potential(1));
            Check.due("down", good ? -step : 0, x.potential(3));
            Check.due("no more", 0, x.potential(2));
        }
    }

    /** "BAD ... [when] there is no allowed one-tree" */
    private static void ascendWithoutOneTree() {
        Check.due("no cities", BAD, new OneTreeTours().ascend(1));
        OneTreeTours x = four();
        x.lift(1, 5);
        x.mark(0, 1, 2);
        Check.due("two are left at 0", true, x.ascend(1) != BAD);
        int kept = x.potential(1);
        x.mark(0, 2, 2);
        for (int step : new int[] {0, 1, 1000, 1001}) {
            Check.due("one is left at 0", BAD, x.ascend(step));
        }
        Check.due("nothing was changed", kept, x.potential(1));
    }

    /** "[when] a potential would be below -100000 or above 100000" */
    private static void ascendPastTheEnds() {
        for (int step : new int[] {1, 3, 1000}) {
            for (int beside = -1; beside <= 1; beside++) {
                end(1, 100000 - step + beside, step, beside > 0);
                end(3, -100000 + step - beside, step, beside > 0);
            }
        }
        // The last city stops the ascent of all others, and so does the first of them.
        OneTreeTours x = four();
        require(x);
        x.lift(3, -100000);
        Check.due("the last is at its end", BAD, x.ascend(1));
        Check.due("1 was left", 0, x.potential(1));
        x.lift(3, 0);
        x.lift(1, 100000);
        Check.due("1 is at its end", BAD, x.ascend(1));
        Check.due("3 was left", 0, x.potential(3));
        // Away from an end there is no hindrance.
        x.lift(1, -100000);
        x.lift(3, 100000);
        Check.due("inwards", 33 - 99000 - 99000, x.ascend(1000));
        Check.due("1 came up", -99000, x.potential(1));
        Check.due("3 came down", 99000, x.potential(3));
        // What has two edges may stand at an end.
        x.lift(0, 100000);
        x.lift(2, -100000);
        Check.due("both ends", 33 - 98000 - 98000, x.ascend(1000));
    }

    private static void require(OneTreeTours x) {
        x.mark(0, 1, 1);
        x.mark(0, 2, 1);
        x.mark(1, 2, 1);
        x.mark(1, 3, 1);
    }

    private static void end(int city, int v, int step, boolean past) {
        OneTreeTours x = four();
        require(x);
        x.lift(city, v);
        int way = city == 1 ? step : -step;
        int bound = city == 1 ? 33 + v + way + step : 33 - v - way + step;
        Check.due("ascend by " + step + " from " + v, past ? BAD : bound, x.ascend(step));
        Check.due("the city", past ? v : v + way, x.potential(city));
        Check.due("the other", past ? 0 : -way, x.potential(4 - city));
    }

    /** "the answer is the bound then" */
    private static void ascendAnswersTheBoundThen() {
        OneTreeTours x = four();
        // With 15 at city 1 and -15 at city 3, the least are 0-3, 0-2, 2-3, 1-3, no more the first.
        Check.due("the first", (3 - 15) + 2 + (30 - 15) + 20, x.ascend(15));
        for (int k = 0; k < 20; k++) {
            int answer = x.ascend(1 + k * 50);
            Check.due("the bound then", x.bound(), answer);
            int sum = 0;
            for (int city = 0; city < 4; city++) {
                sum += x.potential(city);
            }
            Check.due("the sum of the potentials stays", 0, sum);
        }
    }
}
