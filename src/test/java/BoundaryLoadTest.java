/**
 * Boundary cases of when a text is good and of promises 4 to 6, a sentence of the document each.
 */
public final class BoundaryLoadTest {
    private static final int BAD = OneTreeTours.BAD;
    private static final String DIM = "DIMENSION: 3\n";
    private static final String TYPE = "EDGE_WEIGHT_TYPE: EXPLICIT\n";
    private static final String FORMAT = "EDGE_WEIGHT_FORMAT: UPPER_ROW\n";
    private static final String SECTION = "EDGE_WEIGHT_SECTION\n";
    private static final String HEAD = DIM + TYPE + FORMAT + SECTION;
    private static final String PLACES = DIM + "EDGE_WEIGHT_TYPE: MAN_2D\nNODE_COORD_SECTION\n";
    private static final String[] FORMATS = {"FULL_MATRIX", "UPPER_ROW", "LOWER_DIAG_ROW"};

    /** Good texts of all kinds; each of their beginnings begins a good text. */
    private static final String[] GOOD = {
        HEAD + "1 2 3\nEOF\n",
        "COMMENT:\n" + TYPE + FORMAT + "COMMENT: x\n" + DIM + SECTION + "1\n\n2 3\n \nEOF\n",
        Texts.explicit(3, "FULL_MATRIX", "0 1 2\n1 0 3\n2 3 0"),
        Texts.explicit(4, "FULL_MATRIX", "0 9 9 9 9 0 8 8 9\n8 0 7 9 8 7 0"),
        Texts.explicit(4, "LOWER_DIAG_ROW", "0\n1 0\n2 3 0\n4 5 6 0"),
        Texts.explicit(8, "UPPER_ROW", "1 2 3 4 5 6 7\n1 2 3 4 5 6\n1 2 3 4 5\n1 2 3 4\n1 2 3\n1 2\n1"),
        Texts.places("EUC_2D", 3, "1 0 0\n2 3 4\n3 -999 999\n"),
        Texts.places("CEIL_2D", 4, "1 0 0\n2 3 4\n3 -0 0007\n 4  1  1 \n"),
        "EDGE_WEIGHT_TYPE: MAN_2D\n" + DIM + "COMMENT:EOF\n NODE_COORD_SECTION \n1 1 1\n02 2 2\n003 3 3\n EOF \n"
    };

    public static void main(String[] args) {
        emptyText();
        everyBeginning();
        everyLineSpoilt();
        everyCharacterSpoilt();
        behindTheEnd();
        lineNotEnded();
        lineNumbers();
        words();
        digitsOfNumbers();
        comments();
        dimension();
        twoWordsAndOnce();
        types();
        formatOnlyBehindExplicit();
        sectionWhenAllIsTold();
        distanceRange();
        linesOfAnyNumberOfWords();
        countOfData();
        zeroToItself();
        sameThereAndBack();
        numberOfPlaces();
        threeNumbers();
        placeRange();
        roundedToNearest();
        roundedUpwards();
        streets();
        lastLine();
        goodLoadMakesNew();
        size();
        distance();
        Check.finish();
    }

    private static void load(String text, int want) {
        OneTreeTours x = new OneTreeTours();
        Check.due("load of\n" + text + "<<", want, Texts.loadInto(x, text));
        Check.due("cities of\n" + text + "<<", want == 0, x.size() > 0);
    }

    private static int lines(String text) {
        return (int) text.chars().filter(c -> c == '\n').count();
    }

    /** "there are no k lines" */
    private static void emptyText() {
        load("", -1);
        OneTreeTours x = Texts.loaded(GOOD[0]);
        Check.due("the empty text behind a good one", -1, Texts.loadInto(x, ""));
        Check.due("changes nothing", 3, x.size());
    }

    /** "the first k - 1 lines are also the first lines of some good text (of any length)" */
    private static void everyBeginning() {
        for (String good : GOOD) {
            load(good, 0);
            for (int length = 0; length < good.length(); length++) {
                String begun = good.substring(0, length);
                load(begun, -lines(begun) - 1);
            }
        }
    }

    /** "the first k are not" */
    private static void everyLineSpoilt() {
        for (String good : GOOD) {
            String[] line = good.split("\n");
            for (int k = 0; k < line.length; k++) {
                String kept = line[k];
                for (String spoilt : new String[] {"?", kept + " ?", kept + "?", "?" + kept, "? " + kept}) {
                    boolean free = kept.startsWith("COMMENT:") && !spoilt.startsWith("?");
                    line[k] = spoilt;
                    if (!free) {
                        load(String.join("\n", line) + "\n", -k - 1);
                        load(String.join("\n", line) + "\n?", -k - 1);
                    }
                }
                line[k] = kept;
            }
        }
    }

    /** "the first k are not", by one character alone */
    private static void everyCharacterSpoilt() {
        for (String good : GOOD) {
            for (int at = 0; at < good.length(); at++) {
                String begun = good.substring(0, at);
                String line = good.substring(begun.lastIndexOf('\n') + 1, good.indexOf('\n', at));
                int place = at - begun.lastIndexOf('\n') - 1;
                boolean free = line.startsWith("COMMENT:") && place >= "COMMENT:".length();
                if (good.charAt(at) != '\n' && !free) {
                    load(begun + "?" + good.substring(at + 1), -lines(begun) - 1);
                }
            }
        }
    }

    /** "When all data are there, the last line: the one word EOF." */
    private static void behindTheEnd() {
        for (String good : GOOD) {
            int behind = -lines(good) - 1;
            for (String more : new String[] {" ", "x", "\n", " \n", "EOF\n", "COMMENT:\n", "\n\n", "0\n"}) {
                load(good + more, behind);
            }
        }
    }

    /** "(What stands behind the last character 10 is a line that is not ended; ...)" */
    private static void lineNotEnded() {
        for (String good : GOOD) {
            load(good.substring(0, good.length() - 1), -lines(good));
        }
        load("COMMENT:", -1);
        load("COMMENT:\nCOMMENT:", -2);
        load("?", -1);
        load(HEAD + "1 2 3", -5);
        load(HEAD + "1 2 3\n ", -6);
        load(HEAD + "1 2 3\nEOF", -6);
    }

    /** "the answer is -k" */
    private static void lineNumbers() {
        String comments = "COMMENT:\n".repeat(53);
        load(comments, -54);
        load(comments + "\n", -54);
        load(comments + "x", -54);
        load("\n".repeat(480), -1);
        load("x".repeat(480), -1);
        String empty = HEAD + "\n".repeat(480 - HEAD.length());
        load(empty, -4 - (480 - HEAD.length()) - 1);
        load(empty.substring(0, 479) + "x", -4 - (479 - HEAD.length()) - 1);
        load(empty.substring(0, 478) + "x\n", -4 - (478 - HEAD.length()) - 1);
        // A text that can no more be ended within 480 characters begins a good one all the same.
        load(Texts.filled("", 480), -2);
        load("COMMENT:" + "x".repeat(472), -1);
        load(Texts.filled(GOOD[0], 480), 0);
    }

    /** "WORDS of a line are what stands between blanks (32)." */
    private static void words() {
        String[] kept = {DIM, TYPE, FORMAT, SECTION, "1 2 3\n", "EOF\n"};
        for (int k = 0; k < kept.length; k++) {
            String line = kept[k].substring(0, kept[k].length() - 1);
            String[] same = {" " + line, line + " ", "   " + line + "   ", line.replace(" ", "    ")};
            for (String told : same) {
                String[] lines = kept.clone();
                lines[k] = told + "\n";
                load(String.join("", lines), 0);
            }
        }
        load("DIMENSION:3\n", -1);
        load("DIMENSION :3\n", -1);
        load("DIMENSION : 3\n", -1);
        load("DIMENSION:_3\n", -1);
        load("EDGE_WEIGHT_TYPE:EXPLICIT\n", -1);
        load(TYPE + "EDGE_WEIGHT_FORMAT:UPPER_ROW\n", -2);
        load(HEAD + "1 2 3\nE OF\n", -6);
        load(DIM + TYPE + FORMAT + "EDGE_WEIGHT SECTION\n", -4);
    }

    /** "A NUMBER is a word of 1 .. 4 digits, perhaps with '-' before them (007 is 7, -0 is 0)." */
    private static void digitsOfNumbers() {
        String two = PLACES + "1 0 0\n2 0 0\n";
        String[] good = {"0", "7", "07", "007", "0007", "-0", "-00", "-0000", "-7", "-0999", "0999", "999"};
        int[] due = {0, 7, 7, 7, 7, 0, 0, 0, 7, 999, 999, 999};
        for (int k = 0; k < good.length; k++) {
            OneTreeTours x = Texts.loaded(two + "3 " + good[k] + " 0\nEOF\n");
            Check.due("x is " + good[k], due[k], x.distance(0, 2));
            x = Texts.loaded(two + "3 0 " + good[k] + "\nEOF\n");
            Check.due("y is " + good[k], due[k], x.distance(2, 1));
        }
        String[] wrong = {"-", "--0", "+0", "00000", "-00000", "00007", "0-", "0-0", "1.0", "0x1", "a",
            "1e1", "/", ":", "1/", ":1", "-/", "1,", "12345", "99999", "0000000001", "4294967296"};
        for (String told : wrong) {
            load(two + "3 " + told + " 0\n", -6);
            load(two + "3 0 " + told + "\n", -6);
            load(two + told + " 0 0\n", -6);
            load(HEAD + told + "\n", -5);
            load("DIMENSION: " + told + "\n", -1);
        }
        load(two + "0003 0 0\nEOF\n", 0);
        load(two + "00003 0 0\nEOF\n", -6);
        load(two + "-3 0 0\n", -6);
        load(two + "-0003 0 0\n", -6);
    }

    /** "one that begins with 'COMMENT:' as its first characters (as many of them as one likes)" */
    private static void comments() {
        for (int count : new int[] {0, 1, 2, 40}) {
            String many = "COMMENT:\n".repeat(count);
            load(many + GOOD[0], 0);
            load(DIM + many + TYPE + FORMAT + SECTION + "1 2 3\nEOF\n", 0);
            load(DIM + TYPE + FORMAT + many + SECTION + "1 2 3\nEOF\n", 0);
        }
        load("COMMENT:x\n", -2);
        load("COMMENT:: EOF\n", -2);
        load("COMMENT: " + DIM + GOOD[0], 0);
        load("COMMENT\n", -1);
        load("COMMENT :\n", -1);
        load("COMMENT;\n", -1);
        load("COMMEN:\n", -1);
        load("xCOMMENT:\n", -1);
        load(" COMMENT:\n", -1);
        load("comment:\n", -1);
        load("C\n", -1);
        load(HEAD + "COMMENT:\n", -5);
        load(HEAD + "1 2 3\nCOMMENT:\n", -6);
        load(PLACES + "COMMENT:\n", -4);
        load(GOOD[0] + "COMMENT:\n", -7);
    }

    /** "'DIMENSION:' and a number, n (3 .. 8)" */
    private static void dimension() {
        for (int n = -9; n <= 20; n++) {
            load("DIMENSION: " + n + "\n", n >= 3 && n <= 8 ? -2 : -1);
        }
        load("DIMENSION: 0002\n", -1);
        load("DIMENSION: 0003\n", -2);
        load("DIMENSION: 0008\n", -2);
        load("DIMENSION: 0009\n", -1);
        load("DIMENSION: 00008\n", -1);
        load("DIMENSION: -0003\n", -1);
        load("DIMENSION: 9999\n", -1);
        load("DIMENSION: three\n", -1);
    }

    /** "(The last three of these have just two words, and each stands once at most.)" */
    private static void twoWordsAndOnce() {
        load("DIMENSION:\n", -1);
        load("DIMENSION: 3 3\n", -1);
        load("DIMENSION: 3 x\n", -1);
        load("EDGE_WEIGHT_TYPE:\n", -1);
        load("EDGE_WEIGHT_TYPE: EXPLICIT EXPLICIT\n", -1);
        load("EDGE_WEIGHT_TYPE: EUC_2D 1\n", -1);
        load(TYPE + "EDGE_WEIGHT_FORMAT:\n", -2);
        load(TYPE + "EDGE_WEIGHT_FORMAT: UPPER_ROW UPPER_ROW\n", -2);
        load(DIM + DIM, -2);
        load(DIM + "DIMENSION: 8\n", -2);
        load(DIM + TYPE + DIM, -3);
        load(TYPE + TYPE, -2);
        load(TYPE + "EDGE_WEIGHT_TYPE: EUC_2D\n", -2);
        load("EDGE_WEIGHT_TYPE: EUC_2D\n" + TYPE, -2);
        load(TYPE + FORMAT + TYPE, -3);
        load(TYPE + FORMAT + FORMAT, -3);
        load(TYPE + FORMAT + "EDGE_WEIGHT_FORMAT: FULL_MATRIX\n", -3);
        load(TYPE + FORMAT + DIM + FORMAT, -4);
        // What was told in one text is not told in the next.
        OneTreeTours x = Texts.loaded(GOOD[0]);
        Check.due("the same text once more", 0, x.load());
        Check.due("a half of it", -4, Texts.loadInto(x, DIM + TYPE + FORMAT));
        Check.due("the whole again", 0, Texts.loadInto(x, GOOD[0]));
        Check.due("a section without a head", -1, Texts.loadInto(x, SECTION + "1 2 3\nEOF\n"));
        Check.due("a format without a type", -1, Texts.loadInto(x, FORMAT));
    }

    /** "'EDGE_WEIGHT_TYPE:' and one of the words EXPLICIT, EUC_2D, CEIL_2D, MAN_2D" */
    private static void types() {
        for (String type : new String[] {"EXPLICIT", "EUC_2D", "CEIL_2D", "MAN_2D"}) {
            load("EDGE_WEIGHT_TYPE: " + type + "\n", -2);
            load("EDGE_WEIGHT_TYPE: " + type + "_\n", -1);
            load("EDGE_WEIGHT_TYPE: _" + type + "\n", -1);
            load("EDGE_WEIGHT_TYPE: " + type.substring(0, type.length() - 1) + "\n", -1);
            load("EDGE_WEIGHT_TYPE: " + type.substring(1) + "\n", -1);
            load("EDGE_WEIGHT_TYPE: " + type.toLowerCase() + "\n", -1);
            load("EDGE_WEIGHT_TYPE " + type + "\n", -1);
        }
        for (String wrong : new String[] {"EUC_3D", "MAX_2D", "GEO", "ATT", "UPPER_ROW", "3"}) {
            load("EDGE_WEIGHT_TYPE: " + wrong + "\n", -1);
        }
        for (String format : FORMATS) {
            load(TYPE + "EDGE_WEIGHT_FORMAT: " + format + "\n", -3);
            load(TYPE + "EDGE_WEIGHT_FORMAT: " + format + "_\n", -2);
            load(TYPE + "EDGE_WEIGHT_FORMAT: _" + format + "\n", -2);
            load(TYPE + "EDGE_WEIGHT_FORMAT: " + format.substring(0, format.length() - 1) + "\n", -2);
            load(TYPE + "EDGE_WEIGHT_FORMAT " + format + "\n", -2);
        }
        for (String wrong : new String[] {"LOWER_ROW", "UPPER_DIAG_ROW", "EXPLICIT", "UPPER", "0"}) {
            load(TYPE + "EDGE_WEIGHT_FORMAT: " + wrong + "\n", -2);
        }
    }

    /** "only when the type was told before and is EXPLICIT" */
    private static void formatOnlyBehindExplicit() {
        load(FORMAT, -1);
        load(DIM + FORMAT, -2);
        load(FORMAT + TYPE + DIM + SECTION + "1 2 3\nEOF\n", -1);
        for (String type : new String[] {"EUC_2D", "CEIL_2D", "MAN_2D"}) {
            load("EDGE_WEIGHT_TYPE: " + type + "\n" + FORMAT, -2);
            load(DIM + "EDGE_WEIGHT_TYPE: " + type + "\nCOMMENT:\n" + FORMAT, -4);
        }
        load(TYPE + FORMAT + DIM + SECTION + "1 2 3\nEOF\n", 0);
        load(TYPE + DIM + FORMAT + SECTION + "1 2 3\nEOF\n", 0);
    }

    /** "Then, when the dimension and the type were told, and with EXPLICIT the format" */
    private static void sectionWhenAllIsTold() {
        String nodes = "NODE_COORD_SECTION\n";
        for (String section : new String[] {SECTION, nodes}) {
            load(section, -1);
            load("COMMENT:\n" + section, -2);
            load(DIM + section, -2);
            load(TYPE + section, -2);
            load(TYPE + FORMAT + section, -3);
            load(DIM + TYPE + section, -3);
            load("EDGE_WEIGHT_TYPE: EUC_2D\n" + section, -2);
        }
        load(DIM + TYPE + FORMAT + nodes, -4);
        load(DIM + TYPE + FORMAT + SECTION, -5);
        for (String type : new String[] {"EUC_2D", "CEIL_2D", "MAN_2D"}) {
            load(DIM + "EDGE_WEIGHT_TYPE: " + type + "\n" + SECTION, -3);
            load(DIM + "EDGE_WEIGHT_TYPE: " + type + "\n" + nodes, -4);
        }
        load(DIM + TYPE + FORMAT + "EDGE_WEIGHT_SECTION:\n", -4);
        load(DIM + TYPE + FORMAT + "EDGE_WEIGHT_SECTIO\n", -4);
        load(DIM + TYPE + FORMAT + "EDGE_WEIGHT_SECTION 1\n", -4);
        load(DIM + TYPE + FORMAT + "EDGE_WEIGHT_SECTION EDGE_WEIGHT_SECTION\n", -4);
        load(DIM + TYPE + FORMAT + "1 2 3\n", -4);
        load(DIM + TYPE + FORMAT + "\n", -4);
        load(HEAD + SECTION, -5);
        load(PLACES + nodes, -4);
        load(HEAD + DIM, -5);
    }

    /** "all of them numbers 0 .. 9999 without '-'" */
    private static void distanceRange() {
        String[] good = {"0", "1", "9998", "9999", "0000", "0001", "00"};
        for (String told : good) {
            OneTreeTours x = Texts.loaded(HEAD + told + " " + told + " 5\nEOF\n");
            Check.due("distance " + told, Integer.parseInt(told), x.distance(0, 1));
            Check.due("distance back " + told, Integer.parseInt(told), x.distance(2, 0));
        }
        for (String wrong : new String[] {"-1", "-0", "-9999", "10000", "09999", "00000", "+1", "1.", "-"}) {
            for (String data : new String[] {wrong + " 2 3\n", "1 " + wrong + " 3\n", "1 2 " + wrong + "\n"}) {
                load(HEAD + data + "EOF\n", -5);
            }
            load(HEAD + "1 2\n" + wrong + "\nEOF\n", -6);
            load(Texts.explicit(3, "FULL_MATRIX", wrong + " 1 2 1 0 3 2 3 0"), -5);
            load(Texts.explicit(3, "LOWER_DIAG_ROW", wrong + " 1 0 2 3 0"), -5);
        }
    }

    /** "lines of any number of words, also none" */
    private static void linesOfAnyNumberOfWords() {
        for (String format : FORMATS) {
            String[] number = data(4, format).split(" ");
            load(Texts.explicit(4, format, String.join(" ", number)), 0);
            load(Texts.explicit(4, format, String.join("\n", number)), 0);
            load(Texts.explicit(4, format, "\n\n" + String.join("\n  \n", number) + "\n\n\n"), 0);
            for (int cut = 1; cut < number.length; cut++) {
                number[cut] = "\n" + number[cut];
                load(Texts.explicit(4, format, String.join(" ", number)), 0);
                number[cut] = number[cut].substring(1);
            }
        }
        load(PLACES + "\n1 0 0\n2 0 0\n3 0 0\nEOF\n", -4);
        load(PLACES + "1 0 0\n\n2 0 0\n3 0 0\nEOF\n", -5);
        load(PLACES + "1 0 0\n2 0 0\n3 0 0\n\nEOF\n", -7);
        load(PLACES + "1 0 0 2 0 0\n3 0 0\nEOF\n", -4);
        load(PLACES + "1\n0 0\n2 0 0\n3 0 0\nEOF\n", -4);
    }

    /** The numbers of n cities that all lie 5 apart. */
    private static String data(int n, String format) {
        StringBuilder data = new StringBuilder();
        for (int i = 0; i < n; i++) {
            int from = format.equals("UPPER_ROW") ? i + 1 : 0;
            int to = format.equals("LOWER_DIAG_ROW") ? i : n - 1;
            for (int j = from; j <= to; j++) {
                data.append(i == j ? "0 " : "5 ");
            }
        }
        return data.toString().strip();
    }

    /** "for FULL_MATRIX the distances from 0 to 0, 1, .. , n - 1, then those from 1, and so on ..." */
    private static void countOfData() {
        for (int n = 3; n <= 8; n++) {
            int[] count = {n * n, n * (n - 1) / 2, n * (n + 1) / 2};
            for (int k = 0; k < 3; k++) {
                String data = data(n, FORMATS[k]);
                Check.due("numbers of " + FORMATS[k], count[k], data.split(" ").length);
                load(Texts.explicit(n, FORMATS[k], data), 0);
                load(Texts.explicit(n, FORMATS[k], data.substring(0, data.length() - 2)), -6);
                load(Texts.explicit(n, FORMATS[k], data + "\n0"), -6);
                load(Texts.explicit(n, FORMATS[k], data + " 0"), -5);
                load(Texts.explicit(n, FORMATS[k], data + " EOF"), -5);
                load(Texts.explicit(n, FORMATS[k], ""), -6);
            }
        }
        load(Texts.explicit(3, "UPPER_ROW", "1 2 3 ".repeat(20)), -5);
        load(Texts.explicit(3, "UPPER_ROW", "1 ".repeat(190)), -5);
    }

    /** "(0 from a city to itself ...)" */
    private static void zeroToItself() {
        for (int n = 3; n <= 8; n++) {
            for (int city = 0; city < n; city++) {
                String[] full = data(n, "FULL_MATRIX").split(" ");
                full[city * n + city] = "1";
                load(Texts.explicit(n, "FULL_MATRIX", String.join(" ", full)), -5);
                full[city * n + city] = "\n1";
                load(Texts.explicit(n, "FULL_MATRIX", String.join(" ", full)), -6);
                full[city * n + city] = "0000";
                load(Texts.explicit(n, "FULL_MATRIX", String.join(" ", full)), 0);
                String[] lower = data(n, "LOWER_DIAG_ROW").split(" ");
                int at = city * (city + 1) / 2 + city;
                lower[at] = "9999";
                load(Texts.explicit(n, "LOWER_DIAG_ROW", String.join(" ", lower)), -5);
                lower[at] = "00";
                load(Texts.explicit(n, "LOWER_DIAG_ROW", String.join(" ", lower)), 0);
            }
        }
    }

    /** "(... and the same there and back)" */
    private static void sameThereAndBack() {
        for (int n = 3; n <= 6; n++) {
            for (int i = 0; i < n; i++) {
                for (int j = i + 1; j < n; j++) {
                    String[] full = data(n, "FULL_MATRIX").split(" ");
                    full[i * n + j] = "4";
                    load(Texts.explicit(n, "FULL_MATRIX", String.join(" ", full)), -5);
                    // The line with the number that does not fit is that of the way back.
                    full[j * n + i] = "\n5";
                    load(Texts.explicit(n, "FULL_MATRIX", String.join(" ", full)), -6);
                    full[j * n + i] = "\n0004";
                    OneTreeTours x = Texts.loaded(Texts.explicit(n, "FULL_MATRIX", String.join(" ", full)));
                    Check.due("there", 4, x.distance(i, j));
                    Check.due("and back", 4, x.distance(j, i));
                }
            }
        }
    }

    /** "n lines of three numbers, the k-th of them k (from 1)" */
    private static void numberOfPlaces() {
        for (int n = 3; n <= 8; n++) {
            StringBuilder lines = new StringBuilder();
            for (int k = 1; k <= n; k++) {
                String begun = Texts.places("MAN_2D", n, lines.toString());
                load(begun, -3 - k);
                begun = begun.substring(0, begun.length() - "EOF\n".length());
                for (int wrong : new int[] {k - 1, k + 1, -k, 0, k + 10}) {
                    load(begun + wrong + " 0 0\n", -3 - k);
                }
                load(begun + "0" + k + " 0 0\n", -4 - k);
                lines.append(k).append(" 0 ").append(k).append('\n');
            }
            load(Texts.places("MAN_2D", n, lines.toString()), 0);
            load(Texts.places("MAN_2D", n, lines + "" + (n + 1) + " 0 0\n"), -4 - n);
            load(Texts.places("MAN_2D", n, lines + "" + n + " 0 0\n"), -4 - n);
        }
    }

    /** "n lines of three numbers" */
    private static void threeNumbers() {
        String two = PLACES + "1 0 0\n2 0 0\n";
        load(two + "3 0 0\n", -7);
        load(two + "\n", -6);
        load(two + "  \n", -6);
        load(two + "3\n", -6);
        load(two + "3 0\n", -6);
        load(two + "3 0 0 0\n", -6);
        load(two + "3 0 0 EOF\n", -6);
        load(two + "3 0 x\n", -6);
        load(two + "3 x 0\n", -6);
        load(two + "x 0 0\n", -6);
        load(two + "0 0 3\n", -6);
    }

    /** "the place x, y of city k - 1, both -999 .. 999" */
    private static void placeRange() {
        String two = PLACES + "1 0 0\n2 -999 999\n";
        for (int v : new int[] {-9999, -1001, -1000, -999, -998, -1, 0, 1, 998, 999, 1000, 1001, 9999}) {
            boolean good = v >= -999 && v <= 999;
            load(two + "3 " + v + " 0\nEOF\n", good ? 0 : -6);
            load(two + "3 0 " + v + "\nEOF\n", good ? 0 : -6);
            load(PLACES + "1 " + v + " 0\n2 0 0\n3 0 0\nEOF\n", good ? 0 : -4);
            load(PLACES + "1 0 " + v + "\n2 0 0\n3 0 0\nEOF\n", good ? 0 : -4);
        }
        OneTreeTours x = Texts.loaded(two + "3 999 -999\nEOF\n");
        Check.due("the farthest places", 1998 + 1998, x.distance(1, 2));
        Check.due("city k - 1 has the k-th place", 999 + 999, x.distance(0, 1));
    }

    private static int apart(String type, int dx, int dy) {
        int x = dx / 2;
        int y = dy / 2;
        OneTreeTours tours = Texts.loaded(Texts.places(type, 3,
                "1 " + x + " " + y + "\n2 " + (x - dx) + " " + (y - dy) + "\n3 0 0\n"));
        int there = tours.distance(0, 1);
        Check.due("back as there", there, tours.distance(1, 0));
        return there;
    }

    /** "EUC_2D the square root of dx dx + dy dy, rounded to the nearest whole number" */
    private static void roundedToNearest() {
        for (int dx = 0; dx <= 60; dx++) {
            for (int dy = dx; dy <= 60; dy++) {
                int square = dx * dx + dy * dy;
                int due = 0;
                // Four times the square against the square of an odd number: no half is ever met.
                while ((2 * due + 1) * (2 * due + 1) < 4 * square) {
                    due++;
                }
                Check.due("EUC_2D of " + dx + ", " + dy, due, apart("EUC_2D", dx, dy));
            }
        }
        Check.due("the farthest, 2825.6", 2826, apart("EUC_2D", 1998, -1998));
        Check.due("just below 2664.5", 2664, apart("EUC_2D", 1866, 1902));
        Check.due("just above 2744.5", 2745, apart("EUC_2D", 1916, 1965));
        Check.due("a straight way", 1998, apart("EUC_2D", -1998, 0));
        Check.due("the same place", 0, apart("EUC_2D", 0, 0));
    }

    /** "CEIL_2D the same, rounded upwards" */
    private static void roundedUpwards() {
        for (int dx = 0; dx <= 60; dx++) {
            for (int dy = dx; dy <= 60; dy++) {
                int due = 0;
                while (due * due < dx * dx + dy * dy) {
                    due++;
                }
                Check.due("CEIL_2D of " + dx + ", " + dy, due, apart("CEIL_2D", dx, dy));
            }
        }
        Check.due("the farthest, 2825.6", 2826, apart("CEIL_2D", 1998, 1998));
        Check.due("a whole root", 1500, apart("CEIL_2D", 900, -1200));
        Check.due("just above a whole root", 1999, apart("CEIL_2D", -1998, 1));
        Check.due("the same place", 0, apart("CEIL_2D", 0, 0));
    }

    /** "MAN_2D |dx| + |dy|" */
    private static void streets() {
        Check.due("both ways up", 7, apart("MAN_2D", 3, 4));
        Check.due("one down", 7, apart("MAN_2D", -3, 4));
        Check.due("the other down", 7, apart("MAN_2D", 3, -4));
        Check.due("both down", 7, apart("MAN_2D", -3, -4));
        Check.due("the same place", 0, apart("MAN_2D", 0, 0));
        Check.due("the farthest", 3996, apart("MAN_2D", -1998, 1998));
    }

    /** "the one word EOF. (A line of data without words may stand before it with EXPLICIT.)" */
    private static void lastLine() {
        String data = HEAD + "1 2 3\n";
        load(data + "EOF\n", 0);
        load(data + "\nEOF\n", 0);
        load(data + "  \nEOF\n", 0);
        load(data + "\n\n\nEOF\n", 0);
        load(data + "\n\n\nEOF", -9);
        for (String wrong : new String[] {"EOF EOF", "EOF.", "-EOF", "EO", "EOFF", "eof", "E", "0", "SECTION"}) {
            load(data + wrong + "\n", -6);
            load(data + "\n" + wrong + "\n", -7);
            load(PLACES + "1 0 0\n2 0 0\n3 0 0\n" + wrong + "\n", -7);
        }
        load("EOF\n", -1);
        load(DIM + "EOF\n", -2);
        load(HEAD + "EOF\n", -5);
        load(HEAD + "1 2\nEOF\n", -6);
        load(PLACES + "EOF\n", -4);
    }

    /** "then there are its cities and distances, all marks and potentials are 0, and there is no ..." */
    private static void goodLoadMakesNew() {
        for (Scene scene : Scene.all()) {
            OneTreeTours x = scene.make();
            Check.due(scene.name() + ": load", 0, Texts.loadInto(x, Texts.upper(4, "2 2 2 2 2 2")));
            Check.due("its cities", 4, x.size());
            Check.due("no city beyond them", BAD, x.distance(4, 0));
            for (int city = 0; city < 8; city++) {
                Check.due("potential", 0, x.potential(city));
                Check.due("no tour", BAD, x.tour(city));
            }
            Check.due("no mark keeps a tour back", 3, x.ties());
            Check.due("nor a one-tree", 8, x.bound());
            Check.due("no case", false, x.covers());
            for (int k = 0; k <= 10; k++) {
                Check.due("no case " + k, BAD, x.caseBound(k));
            }
            Check.due("the first case", 1, x.add(0, 0));
        }
    }

    /** "How many cities." */
    private static void size() {
        OneTreeTours x = new OneTreeTours();
        Check.due("before a text was loaded", 0, x.size());
        Check.due("two", -1, Texts.loadInto(x, "DIMENSION: 2\n"));
        Check.due("before a good text was loaded", 0, x.size());
        for (int n : new int[] {8, 3, 7, 4, 6, 5}) {
            Texts.loadInto(x, Texts.equal(n, 9));
            Check.due("size", n, x.size());
        }
        Check.due("nine", -1, Texts.loadInto(x, "DIMENSION: 9\n"));
        Check.due("the size before it", 5, x.size());
    }

    /** "The distance of two cities, 0 of one from itself; BAD when there is no such city." */
    private static void distance() {
        for (int n = 3; n <= 8; n++) {
            OneTreeTours x = Texts.loaded(Texts.equal(n, 6));
            int[] cities = {Integer.MIN_VALUE, -2, -1, 0, 1, n - 1, n, n + 1, 8, 9, 64, Integer.MAX_VALUE};
            for (int i : cities) {
                for (int j : cities) {
                    boolean both = i >= 0 && i < n && j >= 0 && j < n;
                    Check.due("distance " + i + ", " + j, !both ? BAD : i == j ? 0 : 6, x.distance(i, j));
                }
            }
        }
        // Fewer cities than before: those that were there are no more.
        OneTreeTours x = Texts.loaded(Texts.equal(8, 6));
        Texts.loadInto(x, Texts.equal(3, 7));
        Check.due("the last city", 7, x.distance(1, 2));
        Check.due("no city any more", BAD, x.distance(1, 3));
        Check.due("nor to itself", BAD, x.distance(7, 7));
    }
}
