/** Boundary cases of the text's characters and of promises 1 to 3, a sentence of the document each. */
public final class BoundaryTextTest {
    private static final int BAD = OneTreeTours.BAD;
    private static final int NONE = OneTreeTours.NONE;
    private static final String GOOD = Texts.upper(3, "1 2 3");

    public static void main(String[] args) {
        emptyText();
        noCities();
        noTour();
        noCase();
        atMost480();
        codes();
        lowestFirst();
        zerosAreLeftOut();
        falseAddingNone();
        wipeMakesEmpty();
        calls512();
        Check.finish();
    }

    /** "An empty text" */
    private static void emptyText() {
        Check.due("load of the empty text", -1, new OneTreeTours().load());
        Check.due("room of the empty text", 480, Texts.room(new OneTreeTours()));
        OneTreeTours x = new OneTreeTours();
        x.wipe();
        Check.due("load of the empty text, wiped", -1, x.load());
        x.write(0);
        Check.due("load of the empty text and zeros", -1, x.load());
        Check.due("room then", 480, Texts.room(x));
    }

    /** "no cities" */
    private static void noCities() {
        OneTreeTours x = new OneTreeTours();
        Check.due("size", 0, x.size());
        for (int i = -1; i <= 8; i++) {
            Check.due("potential", 0, x.potential(i));
            Check.due("degree", BAD, x.degree(i));
            Check.due("lift", false, x.lift(i, 0));
            for (int j = -1; j <= 8; j++) {
                Check.due("distance", BAD, x.distance(i, j));
                Check.due("mark", false, x.mark(i, j, 1));
            }
        }
        Check.due("bound", NONE, x.bound());
        Check.due("ascend", BAD, x.ascend(1));
        Check.due("solve", NONE, x.solve());
        Check.due("ties", 0, x.ties());
        Check.due("improve", NONE, x.improve());
        Check.due("size still", 0, x.size());
    }

    /** "no tour" */
    private static void noTour() {
        OneTreeTours x = new OneTreeTours();
        for (int k = -1; k <= 8; k++) {
            Check.due("tour at " + k, BAD, x.tour(k));
        }
        x.solve();
        x.improve();
        Check.due("no tour without cities", BAD, x.tour(0));
        Texts.loadInto(x, GOOD);
        for (int k = -1; k <= 8; k++) {
            Check.due("no tour when cities are there, at " + k, BAD, x.tour(k));
        }
    }

    /** "no case" */
    private static void noCase() {
        OneTreeTours x = new OneTreeTours();
        for (int k = -1; k <= 10; k++) {
            Check.due("caseBound of " + k, BAD, x.caseBound(k));
        }
        Check.due("covers", false, x.covers());
        Check.due("proves", false, x.proves(Integer.MIN_VALUE));
        Check.due("add", BAD, x.add(0, 0));
        Check.due("none was added", BAD, x.caseBound(0));
        x.drop();
        Texts.loadInto(x, GOOD);
        Check.due("no case when cities are there", BAD, x.caseBound(0));
        Check.due("the first", 1, x.add(0, 0));
    }

    /** "THE TEXT has at most 480 characters", "False ... [when] there would be more than 480" */
    private static void atMost480() {
        for (int more = 1; more <= 8; more++) {
            long packed = Texts.pack("x".repeat(more));
            for (int length = 480 - 9; length <= 480; length++) {
                OneTreeTours x = new OneTreeTours();
                Texts.write(x, "y".repeat(length));
                String told = more + " characters behind " + length;
                boolean fits = length + more <= 480;
                Check.due(told, fits, x.write(packed));
                Check.due(told + ", room", 480 - length - (fits ? more : 0), Texts.room(x));
            }
        }
        for (int length = 479; length <= 480; length++) {
            OneTreeTours x = Texts.loaded(Texts.filled(GOOD, length));
            Check.due("a text of " + length, 3, x.size());
            Check.due("one more than " + length, length == 479, x.write('\n'));
            Check.due("load then", length == 479 ? -8 : 0, x.load());
        }
    }

    /** "with codes 10 and 32 .. 126", "False ... when another byte is no such character" */
    private static void codes() {
        int[] wrong = {1, 8, 9, 11, 12, 13, 30, 31, 127, 128, 129, 128 + 10, 128 + 32, 254, 255};
        int[] good = {0, 10, 32, 33, 48, 125, 126};
        for (int k = 0; k < 8; k++) {
            long hole = ~(255L << (8 * k));
            long others = Texts.pack("abcdefgh") & hole;
            for (int code : wrong) {
                OneTreeTours x = new OneTreeTours();
                Check.due("code " + code + " alone", false, x.write((long) code << (8 * k)));
                Check.due("code " + code + " at " + k, false, x.write(others | (long) code << (8 * k)));
                Check.due("none was added", 480, Texts.room(x));
            }
            for (int code : good) {
                OneTreeTours x = new OneTreeTours();
                Check.due("code " + code + " at " + k, true, x.write(others | (long) code << (8 * k)));
                Check.due("room then", code == 0 ? 473 : 472, Texts.room(x));
            }
        }
        OneTreeTours x = new OneTreeTours();
        Check.due("the least long", false, x.write(Long.MIN_VALUE));
        Check.due("the greatest long", false, x.write(Long.MAX_VALUE));
        Check.due("all ones", false, x.write(-1));
        Check.due("nothing was added", 480, Texts.room(x));
    }

    /** "Adds the characters in the eight bytes of a long, the lowest first" */
    private static void lowestFirst() {
        OneTreeTours x = new OneTreeTours();
        // "COMMENT:", with the 'C' in the lowest byte.
        x.write(0x3A544E454D4D4F43L);
        x.write('\n');
        Check.due("the lowest byte is the first character", -2, x.load());
        x.wipe();
        x.write(0x434F4D4D454E543AL);
        x.write('\n');
        Check.due("not the highest", -1, x.load());
        x.wipe();
        for (int k = 0; k < GOOD.length(); k += 8) {
            x.write(Texts.pack(GOOD.substring(k, Math.min(k + 8, GOOD.length()))));
        }
        Check.due("eight by eight", 0, x.load());
    }

    /** "bytes 0 are left out" */
    private static void zerosAreLeftOut() {
        for (int taken = 1; taken < 256; taken++) {
            OneTreeTours x = new OneTreeTours();
            int next = 0;
            while (next < GOOD.length()) {
                long packed = 0;
                for (int k = 0; k < 8; k++) {
                    if ((taken >> k & 1) == 1 && next < GOOD.length()) {
                        packed |= (long) GOOD.charAt(next) << (8 * k);
                        next++;
                    }
                }
                Check.due("write with zeros", true, x.write(packed));
            }
            Check.due("zeros between the characters, " + taken, 0, x.load());
            Check.due("they take no room", 480 - GOOD.length(), Texts.room(x));
        }
        OneTreeTours x = new OneTreeTours();
        Texts.write(x, "x".repeat(480));
        Check.due("zeros behind a full text", true, x.write(0));
        Check.due("no room", 0, Texts.room(x));
    }

    /** "False, adding none" */
    private static void falseAddingNone() {
        OneTreeTours x = new OneTreeTours();
        Texts.write(x, GOOD.substring(0, GOOD.length() - 2));
        Check.due("a good start and a wrong code", false, x.write(Texts.pack("F\n\t")));
        Check.due("a wrong code and a good end", false, x.write(Texts.pack("\tF\n")));
        Check.due("the text is as it was", -6, x.load());
        Check.due("the rest", true, x.write(Texts.pack("F\n")));
        Check.due("is good", 0, x.load());
        x = new OneTreeTours();
        String full = Texts.filled(GOOD, 480);
        Texts.write(x, full.substring(0, 475));
        Check.due("six more than 475", false, x.write(Texts.pack(full.substring(475) + "\n")));
        Check.due("eight more than 475", false, x.write(Texts.pack(full.substring(475) + "   ")));
        Check.due("wrong ones too", false, x.write(Texts.pack(full.substring(475) + "\t")));
        Check.due("five more than 475", true, x.write(Texts.pack(full.substring(475))));
        Check.due("are all there is", 0, x.load());
    }

    /** "Makes the text empty." */
    private static void wipeMakesEmpty() {
        for (int length : new int[] {0, 1, 8, 479, 480}) {
            OneTreeTours x = new OneTreeTours();
            Texts.write(x, "x".repeat(length));
            x.wipe();
            Check.due("load, wiped from " + length, -1, x.load());
            Check.due("room, wiped from " + length, 480, Texts.room(x));
        }
        OneTreeTours x = Texts.loaded(GOOD);
        x.wipe();
        Check.due("what was loaded stays", 3, x.size());
        Texts.write(x, "EOF\n");
        Check.due("nothing of the old text is left", -1, x.load());
        x.wipe();
        Texts.write(x, Texts.filled(GOOD, 480));
        Check.due("a full text behind it", 0, x.load());
    }

    /** "An object is used for at most 512 calls after it has been made" */
    private static void calls512() {
        OneTreeTours x = new OneTreeTours();
        String full = Texts.filled(Texts.upper(8, "1 ".repeat(28)), 480);
        for (int k = 0; k < 480; k++) {
            x.write(full.charAt(k));
        }
        Check.due("call 481, load", 0, x.load());
        for (int k = 1; k <= 10; k++) {
            Check.due("call " + (481 + k) + ", add", k, x.add(0, 1 << k));
        }
        for (int k = 0; k < 10; k++) {
            Check.due("call " + (492 + k) + ", caseBound", 8, x.caseBound(k));
        }
        Check.due("call 502, solve", 8, x.solve());
        Check.due("call 503, ties", 2520, x.ties());
        Check.due("call 504, improve", 8, x.improve());
        Check.due("call 505, tour", 7, x.tour(7));
        Check.due("call 506, lift", true, x.lift(7, 1));
        Check.due("call 507, bound", 8 - 1, x.bound());
        Check.due("call 508, mark", true, x.mark(6, 7, 1));
        Check.due("call 509, covers", true, x.covers());
        Check.due("call 510, bound", 8 - 1, x.bound());
        Check.due("call 511, proves", true, x.proves(7));
        Check.due("call 512, proves", false, x.proves(8));
    }
}
