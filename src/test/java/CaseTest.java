/** Promises 17 to 21: add, drop, covers, caseBound, proves. */
public final class CaseTest {
    private static final int NONE = OneTreeTours.NONE;
    private static final int BAD = OneTreeTours.BAD;

    public static void main(String[] args) {
        add();
        limit();
        bitsOfEdges();
        drop();
        covers();
        caseBound();
        proves();
        Check.finish();
    }

    /** Four cities on a square: sides 1, diagonals 5. Edges 01 02 03 12 13 23. */
    private static OneTreeTours square() {
        return Texts.loaded(Texts.upper(4, "1 5 1 1 5 1"));
    }

    private static void add() {
        OneTreeTours x = square();
        Check.due("a bit that is no edge's", BAD, x.add(64, 0));
        Check.due("nor on the other side", BAD, x.add(0, 64));
        Check.due("the sign", BAD, x.add(-2147483648, 0));
        Check.due("the sign, other side", BAD, x.add(0, -2147483648));
        Check.due("all bits", BAD, x.add(-1, 0));
        Check.due("the same bit", BAD, x.add(3, 2));
        Check.due("all the same", BAD, x.add(63, 63));
        Check.due("none was added", BAD, x.caseBound(0));
        Check.due("two empty sets", 1, x.add(0, 0));
        Check.due("the same again", 2, x.add(0, 0));
        Check.due("all edges with", 3, x.add(63, 0));
        Check.due("all edges without", 4, x.add(0, 63));
        Check.due("half and half", 5, x.add(42, 21));
    }

    private static void limit() {
        OneTreeTours x = square();
        for (int k = 1; k <= 10; k++) {
            Check.due("case " + k, k, x.add(0, 1));
        }
        Check.due("one more", NONE, x.add(0, 2));
        Check.due("one more, and wrong", BAD, x.add(1, 1));
        Check.due("there are ten", 8, x.caseBound(9));
        Check.due("and not eleven", BAD, x.caseBound(10));
    }

    private static void bitsOfEdges() {
        for (int n = 3; n <= 8; n++) {
            OneTreeTours x = Texts.loaded(Texts.equal(n, 1));
            int edges = n * (n - 1) / 2;
            Check.due("the last edge of " + n, 1, x.add(1 << (edges - 1), 0));
            Check.due("one beyond", BAD, x.add(1 << edges, 0));
            Check.due("one beyond, other side", BAD, x.add(0, 1 << edges));
            Check.due("all edges", 2, x.add(0, (1 << edges) - 1));
        }
    }

    private static void drop() {
        OneTreeTours x = square();
        x.add(0, 0);
        x.add(1, 0);
        Check.due("before", true, x.covers());
        x.drop();
        Check.due("no first case", BAD, x.caseBound(0));
        Check.due("covers", false, x.covers());
        Check.due("from the start", 1, x.add(1, 0));
        Check.due("the dropped cases do not count", false, x.covers());
        x.drop();
        x.drop();
        Check.due("cities are left", 4, x.size());
    }

    private static void covers() {
        OneTreeTours x = square();
        Check.due("no case", false, x.covers());
        x.add(1, 0);
        Check.due("with 0-1 alone", false, x.covers());
        x.add(0, 1);
        Check.due("with 0-1 or without", true, x.covers());
        x.drop();
        // The three tours are 0123 (edges 0 3 5 2), 0132 (0 4 5 1) and 0213 (1 3 4 2).
        x.add(1 | 8, 0);
        x.add(1 | 16, 0);
        Check.due("two of three", false, x.covers());
        x.add(2 | 4, 1);
        Check.due("all three", true, x.covers());
        x.drop();
        x.add(1 | 8 | 32 | 4, 16 | 2);
        x.add(1 | 16, 8);
        Check.due("two again", false, x.covers());
        x.mark(0, 1, 1);
        Check.due("the third is not allowed", true, x.covers());
        x.mark(0, 1, 2);
        Check.due("the third is the only one", false, x.covers());
        x.mark(0, 2, 2);
        Check.due("none is allowed", true, x.covers());
        x.drop();
        Check.due("none is allowed, no case", true, x.covers());
        x.mark(0, 1, 0);
        x.mark(0, 2, 0);
        x.add(0, 63);
        Check.due("no tour lacks all edges", false, x.covers());
        x.add(0, 0);
        Check.due("the empty case holds for all", true, x.covers());
        Check.due("covers makes no tour", BAD, x.tour(0));
    }

    private static void caseBound() {
        OneTreeTours x = square();
        x.add(0, 0);
        x.add(2, 0);
        x.add(0, 1);
        x.add(7, 0);
        x.add(0, 3);
        x.add(8 | 16 | 32, 0);
        x.add(8 | 16, 32);
        int[] due = {4, 8, 8, NONE, NONE, NONE, 8};
        for (int k = 0; k < due.length; k++) {
            Check.due("caseBound of " + k, due[k], x.caseBound(k));
        }
        Check.due("no such case", BAD, x.caseBound(7));
        Check.due("below", BAD, x.caseBound(-1));
        Check.due("far off", BAD, x.caseBound(2147483647));
        x.mark(0, 1, 2);
        x.mark(1, 2, 2);
        Check.due("the marks do not count there", 4, x.caseBound(0));
        Check.due("nor these", 8, x.caseBound(6));
        Check.due("and they are left", 12, x.bound());
        x.mark(0, 1, 0);
        x.mark(1, 2, 0);
        x.lift(2, 1);
        // 1-3 and 1-2 weigh 5 and 2.
        Check.due("potentials do count", 1 + 1 + 5 + 2 - 2, x.caseBound(6));
        x.lift(1, -100);
        Check.due("bound", x.bound(), x.caseBound(0));
        Check.due("potentials are left", 1, x.potential(2));
    }

    private static void proves() {
        OneTreeTours x = square();
        Check.due("no case", false, x.proves(-5));
        x.add(1, 0);
        Check.due("no cover", false, x.proves(-5));
        x.add(0, 1);
        Check.due("4 is the least", true, x.proves(4));
        Check.due("not 5", false, x.proves(5));
        Check.due("least of all", true, x.proves(-2147483648));
        Check.due("most of all", false, x.proves(2147483647));
        x.drop();
        x.add(0, 1);
        x.add(1, 0);
        Check.due("the order does not matter", true, x.proves(4));
        Check.due("the order does not matter, 5", false, x.proves(5));
        x.mark(0, 1, 2);
        Check.due("a case that is not needed counts too", false, x.proves(5));
        x.drop();
        x.add(0, 1);
        Check.due("without it", true, x.proves(8));
        Check.due("without it, 9", false, x.proves(9));
        x.add(7, 0);
        Check.due("a case without one-tree is no hindrance", true, x.proves(8));
        x.drop();
        x.mark(0, 2, 2);
        Check.due("nothing is allowed, no case", true, x.proves(2147483647));
        x.add(0, 0);
        Check.due("nothing is allowed, a low case", false, x.proves(5));
        Check.due("nothing is allowed, 4", true, x.proves(4));
        x.drop();
        x.add(0, 3);
        Check.due("a case without one-tree alone", true, x.proves(2147483647));
        x.drop();
        x.mark(0, 1, 0);
        x.mark(0, 2, 0);
        x.add(0, 0);
        x.lift(1, -100000);
        Check.due("a bound below zero", false, x.proves(0));
        Check.due("its bound", true, x.proves(x.caseBound(0)));
        Check.due("one more", false, x.proves(x.caseBound(0) + 1));
    }
}
