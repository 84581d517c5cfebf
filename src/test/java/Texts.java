/** Writes texts into objects, eight characters a call. */
final class Texts {
    private Texts() {
    }

    static long pack(String upToEight) {
        long packed = 0;
        for (int k = 0; k < upToEight.length(); k++) {
            packed |= (long) upToEight.charAt(k) << (8 * k);
        }
        return packed;
    }

    static boolean write(OneTreeTours x, String text) {
        boolean all = true;
        for (int k = 0; k < text.length(); k += 8) {
            all &= x.write(pack(text.substring(k, Math.min(k + 8, text.length()))));
        }
        return all;
    }

    static int loadInto(OneTreeTours x, String text) {
        x.wipe();
        if (!write(x, text)) {
            throw new IllegalArgumentException("the test's own text is not writable: " + text);
        }
        return x.load();
    }

    static OneTreeTours loaded(String text) {
        OneTreeTours x = new OneTreeTours();
        int answer = loadInto(x, text);
        if (answer != 0) {
            throw new IllegalStateException("a good text was refused with " + answer + ":\n" + text);
        }
        return x;
    }

    static String explicit(int n, String format, String data) {
        return "DIMENSION: " + n + "\nEDGE_WEIGHT_TYPE: EXPLICIT\nEDGE_WEIGHT_FORMAT: " + format
                + "\nEDGE_WEIGHT_SECTION\n" + data + "\nEOF\n";
    }

    static String upper(int n, String data) {
        return explicit(n, "UPPER_ROW", data);
    }

    static String places(String type, int n, String lines) {
        return "DIMENSION: " + n + "\nEDGE_WEIGHT_TYPE: " + type + "\nNODE_COORD_SECTION\n" + lines
                + "EOF\n";
    }

    /** The text behind a comment that fills it up to so many characters. */
    static String filled(String text, int length) {
        int blank = length - text.length() - "COMMENT:\n".length();
        return "COMMENT:" + "x".repeat(blank) + "\n" + text;
    }

    /** How many characters can still be written; it writes them. */
    static int room(OneTreeTours x) {
        int room = 0;
        for (String more = " ".repeat(8); !more.isEmpty(); more = more.substring(1)) {
            while (room <= 480 && x.write(pack(more))) {
                room += more.length();
            }
        }
        return room;
    }

    /** A text for n cities that all lie as far apart from one another. */
    static String equal(int n, int apart) {
        StringBuilder data = new StringBuilder();
        for (int k = 0; k < n * (n - 1) / 2; k++) {
            data.append(apart).append(' ');
        }
        return upper(n, data.toString());
    }
}
