/** Boundary cases of promises 17 to 21, a sentence of the document each. */
public final class BoundaryCaseTest {
    private static final int BAD = OneTreeTours.BAD;
    private static final int NONE = OneTreeTours.NONE;
    private static final int LEAST = Integer.MIN_VALUE;
    private static final int MOST = Integer.MAX_VALUE;

    public static void main(String[] args) {
        addCounts();
        addWithoutCities();
        addBitsThatAreNoEdges();
        addTheSameBit();
        addWhenTenAreThere();
        dropAll();
        coversEveryTour();
        coversFirstAndSecondSet();
        coversWhenNoneIsAllowed();
        coversWithoutCities();
        caseBoundOfMarks();
        caseBoundNone();
        caseBoundBad();
        provesCoverAndBounds();
        provesAtTheBound();
        provesByNone();
        provesTheEnds();
        provesWithoutCases();
        Check.finish();
    }

    /** Four cities on a square: sides 1, diagonals 5. The edges are 01 02 03 12 13 23. */
    private static OneTreeTours square() {
        return Texts.loaded(Texts.upper(4, "1 5 1 1 5 1"));
    }

    /** "how many cases there are then" */
    private static void addCounts() {
        OneTreeTours x = square();
        for (int k = 1; k <= 10; k++) {
            Check.due("case " + k, k, x.add(k % 3, 8 * (k % 5)));
            Check.due("it is there", true, x.caseBound(k - 1) != BAD);
            Check.due("no more is", BAD, x.caseBound(k));
        }
        x = square();
        Check.due("two empty sets", 1, x.add(0, 0));
        Check.due("the same again", 2, x.add(0, 0));
        Check.due("all edges with", 3, x.add(63, 0));
        Check.due("all edges without", 4, x.add(0, 63));
        Check.due("all edges, with or without", 5, x.add(21, 42));
    }

    /** "BAD when there are no cities" */
    private static void addWithoutCities() {
        OneTreeTours x = new OneTreeTours();
        for (int set : new int[] {0, 1, 2, -1, LEAST, MOST}) {
            Check.due("with " + set, BAD, x.add(set, 0));
            Check.due("without " + set, BAD, x.add(0, set));
        }
        Texts.loadInto(x, Texts.equal(3, 1));
        Check.due("then the first", 1, x.add(0, 0));
    }

    /** "[BAD when] one of them has a bit that is no edge's" */
    private static void addBitsThatAreNoEdges() {
        for (int n = 3; n <= 8; n++) {
            OneTreeTours x = Texts.loaded(Texts.equal(n, 1));
            int edges = n * (n - 1) / 2;
            for (int bit = 0; bit < 32; bit++) {
                x.drop();
                int set = 1 << bit;
                Check.due("with bit " + bit + " of " + edges, bit < edges ? 1 : BAD, x.add(set, 0));
                Check.due("without bit " + bit, bit < edges ? 2 : BAD, x.add(0, set));
                if (bit > 0) {
                    Check.due("beside a good one", bit < edges ? 3 : BAD, x.add(set | 1, 0));
                    Check.due("beside a good one", bit < edges ? 4 : BAD, x.add(1, set));
                }
                Check.due("none was added", bit >= edges, x.caseBound(0) == BAD);
            }
            x.drop();
            int all = (1 << edges) - 1;
            Check.due("all edges with", 1, x.add(all, 0));
            Check.due("all edges without", 2, x.add(0, all));
            Check.due("one bit more with", BAD, x.add(2 * all + 1, 0));
            Check.due("one bit more without", BAD, x.add(0, 2 * all + 1));
            Check.due("all bits", BAD, x.add(-1, 0));
            Check.due("all bits of both", BAD, x.add(-1, -1));
            Check.due("two are there", 3, x.add(0, 0));
        }
        // Fewer cities than before have fewer edges.
        OneTreeTours x = Texts.loaded(Texts.equal(8, 1));
        Check.due("the last edge of eight", 1, x.add(1 << 27, 0));
        Texts.loadInto(x, Texts.equal(3, 1));
        Check.due("the fourth edge of three", BAD, x.add(8, 0));
        Check.due("the last edge of three", 1, x.add(4, 0));
    }

    /** "[BAD when] both have the same bit" */
    private static void addTheSameBit() {
        OneTreeTours x = square();
        for (int bit = 0; bit < 6; bit++) {
            int set = 1 << bit;
            Check.due("bit " + bit + " twice", BAD, x.add(set, set));
            Check.due("among others", BAD, x.add(63, set));
            Check.due("among others", BAD, x.add(set, 63));
            Check.due("all but it", true, x.add(set, 63 - set) > 0);
            x.drop();
        }
        Check.due("none is left", BAD, x.caseBound(0));
    }

    /** "NONE when 10 are there" */
    private static void addWhenTenAreThere() {
        OneTreeTours x = square();
        for (int k = 1; k <= 9; k++) {
            x.add(1, 0);
        }
        Check.due("the tenth", 10, x.add(0, 1));
        Check.due("the eleventh", NONE, x.add(2, 1));
        Check.due("the eleventh again", NONE, x.add(0, 0));
        // The document names BAD first, so a set that is wrong is BAD in a full list too.
        Check.due("a wrong one", BAD, x.add(64, 0));
        Check.due("a wrong one", BAD, x.add(1, 1));
        for (int k = 0; k < 9; k++) {
            Check.due("case " + k + " is as it was", 4, x.caseBound(k));
        }
        Check.due("and the tenth", 8, x.caseBound(9));
        Check.due("there is no eleventh", BAD, x.caseBound(10));
        Check.due("they cover", true, x.covers());
        x.drop();
        Check.due("room again", 1, x.add(0, 0));
    }

    /** "There is no case any more." */
    private static void dropAll() {
        for (int count = 0; count <= 10; count++) {
            OneTreeTours x = square();
            for (int k = 0; k < count; k++) {
                x.add(0, 0);
            }
            Check.due(count + " cases cover", count > 0, x.covers());
            x.drop();
            for (int k = 0; k <= 10; k++) {
                Check.due("no case " + k, BAD, x.caseBound(k));
            }
            Check.due("nothing covers", false, x.covers());
            Check.due("nothing proves", false, x.proves(LEAST));
            Check.due("the first again", 1, x.add(0, 1));
            Check.due("is the new one", 8, x.caseBound(0));
            Check.due("those before do not cover", false, x.covers());
        }
        OneTreeTours x = new OneTreeTours();
        x.drop();
        Check.due("drop without cities", BAD, x.caseBound(0));
    }

    /** "Whether for every tour that is allowed there is a case" */
    private static void coversEveryTour() {
        // The tours are 0123 with the edges 0 2 3 5, 0132 with 0 1 4 5, 0213 with 1 2 3 4.
        int[] tours = {1 | 4 | 8 | 32, 1 | 2 | 16 | 32, 2 | 4 | 8 | 16};
        for (int told = 0; told < 8; told++) {
            OneTreeTours x = square();
            for (int k = 0; k < 3; k++) {
                if ((told >> k & 1) == 1) {
                    x.add(tours[k], 63 - tours[k]);
                }
            }
            Check.due("the tours " + told, told == 7, x.covers());
            // With 0-1 the third is not allowed, without it the third alone.
            x.mark(0, 1, 1);
            Check.due("the tours " + told + " with 0-1", (told & 3) == 3, x.covers());
            x.mark(0, 1, 2);
            Check.due("the tours " + told + " without 0-1", (told & 4) == 4, x.covers());
        }
        // The last case alone makes it whole, and a case that holds for no tour spoils nothing.
        OneTreeTours x = square();
        for (int k = 0; k < 9; k++) {
            x.add(1 | 2 | 4, 0);
        }
        Check.due("nine that hold for none", false, x.covers());
        x.add(0, 0);
        Check.due("the tenth holds for all", true, x.covers());
    }

    /** "the tour has all edges of its first set and none of the second" */
    private static void coversFirstAndSecondSet() {
        int tour = 1 | 4 | 8 | 32;
        for (int with = 0; with < 64; with++) {
            OneTreeTours x = square();
            // Then only 0123 is allowed: it has 0 2 3 5, and neither 1 nor 4.
            x.mark(0, 1, 1);
            x.mark(1, 2, 1);
            for (int without = 0; without < 64; without++) {
                if ((with & without) == 0) {
                    x.drop();
                    x.add(with, without);
                    boolean holds = (with & ~tour) == 0 && (without & tour) == 0;
                    Check.due("with " + with + ", without " + without, holds, x.covers());
                }
            }
        }
    }

    /** "(so also when none is allowed)" */
    private static void coversWhenNoneIsAllowed() {
        for (int n = 3; n <= 8; n++) {
            OneTreeTours x = Texts.loaded(Texts.equal(n, 1));
            Check.due("no case, all tours allowed", false, x.covers());
            for (int city = 1; city < n - 1; city++) {
                x.mark(0, city, 2);
            }
            Check.due("no case, no tour allowed", true, x.covers());
            x.add(7, 0);
            Check.due("a case that holds for none", true, x.covers());
            x.mark(0, 1, 0);
            x.drop();
            Check.due("no case, a tour allowed again", false, x.covers());
        }
    }

    /** "False when there are no cities." */
    private static void coversWithoutCities() {
        OneTreeTours x = new OneTreeTours();
        Check.due("a new object", false, x.covers());
        x.add(0, 0);
        x.mark(0, 1, 2);
        Check.due("whatever is tried", false, x.covers());
        Texts.loadInto(x, "DIMENSION: 3\n");
        Check.due("or loaded in vain", false, x.covers());
    }

    /** "if the edges of the first set were marked as required, those of the second one as forbidden" */
    private static void caseBoundOfMarks() {
        OneTreeTours x = Texts.loaded(Texts.upper(5, "11 25 32 47 53 64 78 86 91 10"));
        x.lift(2, -4);
        x.lift(3, 9);
        for (int e = 0; e < 10; e++) {
            x.drop();
            x.add(1 << e, 0);
            x.add(0, 1 << e);
            x.add(1 << e, 1 << (e + 3) % 10);
            Check.due("with " + e, boundWith(x, 1 << e, 0), x.caseBound(0));
            Check.due("without " + e, boundWith(x, 0, 1 << e), x.caseBound(1));
            Check.due("with and without", boundWith(x, 1 << e, 1 << (e + 3) % 10), x.caseBound(2));
        }
        // "and the others not at all": the marks that there are do not count.
        x.drop();
        x.add(0, 0);
        unmark(x);
        int free = x.bound();
        x.mark(0, 1, 2);
        x.mark(3, 4, 2);
        x.mark(0, 4, 1);
        Check.due("whatever the marks", free, x.caseBound(0));
        Check.due("which are left", true, x.bound() > free);
    }

    private static void unmark(OneTreeTours x) {
        for (int i = 0; i < 5; i++) {
            for (int j = i + 1; j < 5; j++) {
                x.mark(i, j, 0);
            }
        }
    }

    private static int boundWith(OneTreeTours x, int with, int without) {
        int e = 0;
        for (int i = 0; i < 5; i++) {
            for (int j = i + 1; j < 5; j++) {
                x.mark(i, j, (with >> e & 1) == 1 ? 1 : (without >> e & 1) == 1 ? 2 : 0);
                e++;
            }
        }
        return x.bound();
    }

    /** "NONE when there is no such one-tree" */
    private static void caseBoundNone() {
        OneTreeTours x = square();
        x.add(1 | 2, 0);
        x.add(1 | 2 | 4, 0);
        x.add(0, 1);
        x.add(0, 1 | 2);
        x.add(8 | 16, 0);
        x.add(8 | 16 | 32, 0);
        x.add(0, 8);
        x.add(0, 8 | 16);
        x.add(63, 0);
        x.add(0, 63);
        int[] due = {8, NONE, 8, NONE, 8, NONE, 8, NONE, NONE, NONE};
        for (int k = 0; k < 10; k++) {
            Check.due("case " + k, due[k], x.caseBound(k));
        }
        x = Texts.loaded(Texts.equal(3, 7));
        x.add(7, 0);
        x.add(0, 4);
        Check.due("all edges of three", 21, x.caseBound(0));
        Check.due("one less", NONE, x.caseBound(1));
    }

    /** "BAD when there is no such case" */
    private static void caseBoundBad() {
        Check.due("no cities", BAD, new OneTreeTours().caseBound(0));
        OneTreeTours x = square();
        for (int count = 0; count <= 10; count++) {
            for (int k : new int[] {LEAST, -2, -1, count, count + 1, 10, 11, MOST}) {
                Check.due("case " + k + " of " + count, BAD, x.caseBound(k));
            }
            if (count > 0) {
                Check.due("the first of " + count, 4, x.caseBound(0));
                Check.due("the last of " + count, 4, x.caseBound(count - 1));
            }
            x.add(0, 0);
        }
    }

    /** "they cover, and the bound of each of them is not less than value" */
    private static void provesCoverAndBounds() {
        OneTreeTours x = square();
        x.add(2, 0);
        Check.due("the bound is there, the cover is not", false, x.proves(4));
        Check.due("whatever the value", false, x.proves(LEAST));
        x.add(0, 2);
        Check.due("both", true, x.proves(4));
        // The bounds are 8 and 4, so the second one decides; and it does so at each place.
        for (int place = 0; place < 10; place++) {
            x.drop();
            for (int k = 0; k < 10; k++) {
                x.add(k == place ? 0 : 2, k == place ? 2 : 0);
            }
            Check.due("the low one at " + place, 4, x.caseBound(place));
            Check.due("4, the low one at " + place, true, x.proves(4));
            Check.due("5, the low one at " + place, false, x.proves(5));
        }
    }

    /** "is not less than value" */
    private static void provesAtTheBound() {
        for (int v : new int[] {-100000, -1, 0, 1, 100000}) {
            OneTreeTours x = square();
            x.add(0, 0);
            x.lift(1, v);
            int bound = x.bound();
            Check.due("one less than " + bound, true, x.proves(bound - 1));
            Check.due("just " + bound, true, x.proves(bound));
            Check.due("one more than " + bound, false, x.proves(bound + 1));
        }
        // Bounds of -1 and 0 are bounds like others.
        OneTreeTours x = Texts.loaded(Texts.upper(4, "0 0 0 0 0 0"));
        x.add(0, 0);
        Check.due("0", true, x.proves(0));
        Check.due("not 1", false, x.proves(1));
        x.lift(3, 1);
        Check.due("the bound is -1", -1, x.caseBound(0));
        Check.due("-1", true, x.proves(-1));
        Check.due("not 0", false, x.proves(0));
    }

    /** "or NONE" */
    private static void provesByNone() {
        OneTreeTours x = square();
        x.add(0, 0);
        x.add(1 | 2 | 4, 0);
        Check.due("NONE is no hindrance", true, x.proves(4));
        Check.due("it does not help", false, x.proves(5));
        x.drop();
        x.add(1 | 2 | 4, 0);
        Check.due("NONE alone covers nothing", false, x.proves(4));
        x.mark(0, 1, 1);
        x.mark(0, 2, 1);
        x.mark(0, 3, 1);
        Check.due("but where nothing is allowed", true, x.proves(MOST));
        Check.due("below NONE", true, x.proves(NONE - 1));
        Check.due("at NONE", true, x.proves(NONE));
        Check.due("above NONE", true, x.proves(NONE + 1));
        x.add(0, 0);
        Check.due("the bound of each", false, x.proves(5));
        Check.due("the bound of each", true, x.proves(4));
    }

    /** The least bound that there is, and values as far as an int goes. */
    private static void provesTheEnds() {
        OneTreeTours x = Texts.loaded(Texts.equal(8, 0));
        x.add(0, 0);
        x.lift(1, -100000);
        for (int city = 2; city < 8; city++) {
            x.lift(city, 100000);
        }
        Check.due("the least bound", -1000000, x.caseBound(0));
        Check.due("at it", true, x.proves(-1000000));
        Check.due("above it", false, x.proves(-999999));
        Check.due("NONE", true, x.proves(NONE));
        Check.due("the least int", true, x.proves(LEAST));
        Check.due("the greatest int", false, x.proves(MOST));
        x = Texts.loaded(Texts.equal(8, 9999));
        x.add(0, 0);
        Check.due("the greatest length", true, x.proves(79992));
        Check.due("one more", false, x.proves(79993));
    }

    /** No case proves nothing, but where no tour is allowed; without cities nothing is proved. */
    private static void provesWithoutCases() {
        OneTreeTours x = new OneTreeTours();
        Check.due("no cities", false, x.proves(LEAST));
        Check.due("no cities", false, x.proves(0));
        x = square();
        Check.due("no case", false, x.proves(LEAST));
        x.mark(0, 1, 2);
        x.mark(0, 2, 2);
        Check.due("no case, no tour", true, x.proves(MOST));
        Check.due("no case, no tour", true, x.proves(LEAST));
        x.mark(0, 2, 0);
        Check.due("no case, a tour", false, x.proves(LEAST));
    }
}
