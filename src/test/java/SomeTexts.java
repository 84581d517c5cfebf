import java.util.ArrayList;
import java.util.List;
import java.util.Random;

/** Makes texts by chance: good ones, and such as were good before something in them was spoilt. */
final class SomeTexts {
    private static final String[] PIECES = {
        "", " ", "0", "1", "-0", "-1", "3", "8", "9", "007", "9999", "10000", "-", "x", "EOF",
        "COMMENT:", "COMMENT: EDGE_WEIGHT_SECTION", "DIMENSION:", "DIMENSION: 4", "EXPLICIT",
        "EDGE_WEIGHT_TYPE: EUC_2D", "EDGE_WEIGHT_TYPE: EXPLICIT", "EDGE_WEIGHT_FORMAT: UPPER_ROW",
        "EDGE_WEIGHT_FORMAT: FULL_MATRIX", "EDGE_WEIGHT_SECTION", "NODE_COORD_SECTION", "999",
        "-999", "1000", "-1000", "0 0", "1 0 0"
    };

    private final Random random;

    SomeTexts(Random random) {
        this.random = random;
    }

    /** A text that is good, unless it was spoilt as often as told or cut to what there is room for. */
    String make(int n, int spoils) {
        String text = good(n);
        for (int k = 0; k < spoils; k++) {
            text = spoilt(text);
        }
        return text.length() > 480 ? text.substring(0, 480) : text;
    }

    private String blanks(int least) {
        return " ".repeat(random.nextInt(6) == 0 ? least + random.nextInt(3) : least);
    }

    private String line(String... words) {
        return blanks(0) + String.join(blanks(1), words) + blanks(0) + "\n";
    }

    private String good(int n) {
        String[] types = {"EXPLICIT", "EXPLICIT", "EXPLICIT", "EUC_2D", "CEIL_2D", "MAN_2D"};
        String[] formats = {"FULL_MATRIX", "UPPER_ROW", "LOWER_DIAG_ROW"};
        String type = types[random.nextInt(types.length)];
        String format = formats[random.nextInt(3)];
        List<String> head = new ArrayList<>();
        head.add(line("EDGE_WEIGHT_TYPE:", type));
        if (type.equals("EXPLICIT")) {
            head.add(line("EDGE_WEIGHT_FORMAT:", format));
        }
        head.add(random.nextInt(head.size() + 1), line("DIMENSION:", "0".repeat(random.nextInt(3)) + n));
        if (random.nextInt(4) == 0) {
            head.add(random.nextInt(head.size() + 1), "COMMENT: " + PIECES[random.nextInt(PIECES.length)] + "\n");
        }
        String data = type.equals("EXPLICIT") ? numbers(n, format) : places(n);
        String section = type.equals("EXPLICIT") ? "EDGE_WEIGHT_SECTION" : "NODE_COORD_SECTION";
        return String.join("", head) + line(section) + data + line("EOF");
    }

    private String numbers(int n, String format) {
        int most = random.nextBoolean() ? 3 : 10000;
        int[][] distance = new int[n][n];
        StringBuilder data = new StringBuilder();
        for (int i = 0; i < n; i++) {
            for (int j = 0; j < n; j++) {
                distance[i][j] = j < i ? distance[j][i] : i == j ? 0 : random.nextInt(most);
            }
        }
        for (int i = 0; i < n; i++) {
            int from = format.equals("UPPER_ROW") ? i + 1 : 0;
            int to = format.equals("LOWER_DIAG_ROW") ? i : n - 1;
            for (int j = from; j <= to; j++) {
                // Most numbers stand by themselves in the lines, as if no row were told.
                data.append(distance[i][j]).append(random.nextInt(4) == 0 ? "\n" : blanks(1));
            }
        }
        return data.append(random.nextInt(5) == 0 ? "\n\n" : "\n").toString();
    }

    private String places(int n) {
        int most = random.nextBoolean() ? 9 : 999;
        StringBuilder data = new StringBuilder();
        for (int k = 1; k <= n; k++) {
            int x = random.nextInt(2 * most + 1) - most;
            int y = random.nextInt(2 * most + 1) - most;
            data.append(line("" + k, x == 0 ? "-0" : "" + x, "" + y));
        }
        return data.toString();
    }

    private String spoilt(String text) {
        List<String> lines = new ArrayList<>(List.of(text.split("\n", -1)));
        int at = random.nextInt(lines.size());
        String piece = PIECES[random.nextInt(PIECES.length)];
        int place = random.nextInt(text.length());
        switch (random.nextInt(9)) {
            case 0 -> lines.remove(at);
            case 1 -> lines.add(at, lines.get(at));
            case 2 -> lines.add(at, piece);
            case 3 -> lines.set(at, piece);
            case 4 -> lines.set(at, lines.get(at) + " " + piece);
            case 5 -> lines.add(lines.remove(at));
            case 6 -> {
                return text.substring(0, place + 1);
            }
            case 7 -> {
                String less = text.substring(0, place) + text.substring(place + 1);
                return less.isEmpty() ? "\n" : less;
            }
            default -> {
                char c = "0123456789- \n:EX_~".charAt(random.nextInt(18));
                return text.substring(0, place) + c + text.substring(place + 1);
            }
        }
        String joined = String.join("\n", lines);
        return joined.isEmpty() ? "\n" : joined;
    }
}
