/** Promises 1 to 3: a new object, write, wipe. */
public final class TextTest {
    private static final String GOOD = Texts.upper(3, "1 2 3");

    public static void main(String[] args) {
        newObject();
        bytesInOrder();
        zerosAreLeftOut();
        wrongBytes();
        limit();
        wipe();
        Check.finish();
    }

    private static void newObject() {
        OneTreeTours x = new OneTreeTours();
        Check.due("new: size", 0, x.size());
        Check.due("new: load of the empty text", -1, x.load());
        Check.due("new: distance", OneTreeTours.BAD, x.distance(0, 0));
        Check.due("new: mark", false, x.mark(0, 1, 1));
        Check.due("new: lift", false, x.lift(0, 0));
        Check.due("new: potential", 0, x.potential(0));
        Check.due("new: bound", OneTreeTours.NONE, x.bound());
        Check.due("new: degree", OneTreeTours.BAD, x.degree(0));
        Check.due("new: ascend", OneTreeTours.BAD, x.ascend(1));
        Check.due("new: solve", OneTreeTours.NONE, x.solve());
        Check.due("new: ties", 0, x.ties());
        Check.due("new: improve", OneTreeTours.NONE, x.improve());
        Check.due("new: tour", OneTreeTours.BAD, x.tour(0));
        Check.due("new: add", OneTreeTours.BAD, x.add(0, 0));
        Check.due("new: covers", false, x.covers());
        Check.due("new: caseBound", OneTreeTours.BAD, x.caseBound(0));
        Check.due("new: proves", false, x.proves(-2147483648));
        x.drop();
        x.wipe();
        Check.due("new: size after all that", 0, x.size());
    }

    private static void bytesInOrder() {
        OneTreeTours x = new OneTreeTours();
        Check.due("write a good text", true, Texts.write(x, GOOD));
        Check.due("load it", 0, x.load());
        Check.due("its distance 0-2", 2, x.distance(0, 2));
        Check.due("load it again", 0, x.load());
    }

    private static void zerosAreLeftOut() {
        OneTreeTours x = new OneTreeTours();
        for (int k = 0; k < GOOD.length(); k++) {
            Check.due("one byte among zeros", true, x.write((long) GOOD.charAt(k) << (8 * (k % 8))));
            Check.due("nothing but zeros", true, x.write(0));
        }
        Check.due("load what came by single bytes", 0, x.load());
        Check.due("size", 3, x.size());
    }

    private static void wrongBytes() {
        for (int code = 1; code < 256; code++) {
            boolean good = code == 10 || code >= 32 && code <= 126;
            for (int k = 0; k < 8; k++) {
                OneTreeTours x = new OneTreeTours();
                Texts.write(x, GOOD);
                Check.due("byte " + code + " at " + k, good, x.write((long) code << (8 * k)));
                Check.due("load behind byte " + code, good ? -7 : 0, x.load());
            }
        }
        OneTreeTours x = new OneTreeTours();
        Check.due("good bytes beside a wrong one", false, x.write(Texts.pack("COMMENT\t")));
        Check.due("good bytes above a wrong one", false, x.write(Texts.pack("\u0080COMMENT")));
        Texts.write(x, GOOD);
        Check.due("none of them was added", 0, x.load());
    }

    private static void limit() {
        // The first line fills up what the good text leaves of the 480 characters.
        int left = 480 - GOOD.length();
        String full = "COMMENT:" + "~".repeat(left - 9) + "\n" + GOOD;
        OneTreeTours x = new OneTreeTours();
        Texts.write(x, full.substring(0, 478));
        Check.due("three more than 478", false, x.write(Texts.pack("F\n ")));
        Check.due("three with zeros between them", false, x.write(0x20000A0000000046L));
        Check.due("the text was left", -7, x.load());
        Check.due("two more than 478", true, x.write(Texts.pack("F\n")));
        Check.due("480 characters", 0, x.load());
        Check.due("one more than 480", false, x.write(Texts.pack(" ")));
        Check.due("none more than 480", true, x.write(0));
        Check.due("a wrong one behind 480", false, x.write(7));
        Check.due("still 480 good characters", 0, x.load());
        x.wipe();
        Check.due("480 characters again", true, Texts.write(x, full));
        Check.due("load them", 0, x.load());
    }

    private static void wipe() {
        OneTreeTours x = Texts.loaded(GOOD);
        x.mark(0, 1, 1);
        x.lift(1, 5);
        x.solve();
        x.add(0, 0);
        x.wipe();
        Check.due("load after wipe", -1, x.load());
        Check.due("wipe leaves the cities", 3, x.size());
        Check.due("wipe leaves the potentials", 5, x.potential(1));
        Check.due("wipe leaves the tour", 1, x.tour(1));
        Check.due("wipe leaves the cases", true, x.covers());
        x.wipe();
        Check.due("write after wipe", true, Texts.write(x, GOOD));
        Check.due("load what was written after wipe", 0, x.load());
    }
}
