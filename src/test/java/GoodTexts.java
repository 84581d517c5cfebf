import java.util.ArrayList;
import java.util.List;
import java.util.regex.Matcher;
import java.util.regex.Pattern;

/**
 * Says what load is to answer, by the words of the document: whether a whole text is good, and
 * whether lines can be made a good text by adding lines to them.
 */
final class GoodTexts {
    private static final String NUMBER = "-?[0-9]{1,4}";
    private static final String[] SECTIONS = {"", "EDGE_WEIGHT_SECTION", "NODE_COORD_SECTION"};
    private static final Pattern DIMENSION = Pattern.compile(" *DIMENSION: +(" + NUMBER + ") *");
    private static final Pattern TYPE =
            Pattern.compile(" *EDGE_WEIGHT_TYPE: +(EXPLICIT|EUC_2D|CEIL_2D|MAN_2D) *");
    private static final Pattern FORMAT =
            Pattern.compile(" *EDGE_WEIGHT_FORMAT: +(FULL_MATRIX|UPPER_ROW|LOWER_DIAG_ROW) *");
    private static final Pattern PLACE =
            Pattern.compile(" *(" + NUMBER + ") +(" + NUMBER + ") +(" + NUMBER + ") *");

    private GoodTexts() {
    }

    static int dueOfLoad(String text) {
        List<String> lines = new ArrayList<>(List.of(text.split("\n", -1)));
        String rest = lines.remove(lines.size() - 1);
        if (rest.isEmpty() && read(lines) != null) {
            return 0;
        }
        // Lines that begin a good text do so with fewer of them too, so halving finds the first.
        int good = 0;
        int wrong = lines.size() + 1;
        while (wrong - good > 1) {
            int middle = (good + wrong) / 2;
            if (canBeginGood(lines.subList(0, middle))) {
                good = middle;
            } else {
                wrong = middle;
            }
        }
        return -wrong;
    }

    /** Tries every way to go on that there could be. */
    private static boolean canBeginGood(List<String> lines) {
        for (int n = 3; n <= 8; n++) {
            for (int told = 0; told < 8; told++) {
                List<String> head = new ArrayList<>(lines);
                append(head, (told & 1) != 0, "DIMENSION: " + n);
                append(head, (told & 2) != 0, "EDGE_WEIGHT_TYPE: EXPLICIT");
                append(head, (told & 4) != 0, "EDGE_WEIGHT_FORMAT: UPPER_ROW");
                for (String section : SECTIONS) {
                    List<String> tried = new ArrayList<>(head);
                    append(tried, !section.isEmpty(), section);
                    if (endsSomehow(tried, n)) {
                        return true;
                    }
                }
            }
        }
        return false;
    }

    private static void append(List<String> lines, boolean wanted, String line) {
        if (wanted) {
            lines.add(line);
        }
    }

    private static boolean endsSomehow(List<String> lines, int n) {
        if (read(lines) != null) {
            return true;
        }
        int section = 0;
        while (section < lines.size() && !lines.get(section).contains("SECTION")) {
            section++;
        }
        // With comments a section may be named before it is reached, so every start is tried.
        for (int from = section; from < lines.size(); from++) {
            if (!lines.get(from).contains("SECTION")) {
                continue;
            }
            List<String> places = new ArrayList<>(lines);
            for (int k = lines.size() - from; k <= n; k++) {
                places.add(k + " 0 0");
            }
            places.add("EOF");
            if (read(places) != null || endsByNumbers(lines, from + 1, n)) {
                return true;
            }
        }
        return false;
    }

    private static boolean endsByNumbers(List<String> lines, int from, int n) {
        List<String> words = new ArrayList<>();
        for (String line : lines.subList(from, lines.size())) {
            words.addAll(wordsOf(line));
        }
        int told = words.size();
        List<String> full = new ArrayList<>(words);
        for (int k = told; k < n * n; k++) {
            int mirror = k % n * n + k / n;
            full.add(mirror < told ? words.get(mirror) : "0");
        }
        int[] counts = {n * n, n * (n - 1) / 2, n * (n + 1) / 2};
        for (int count : counts) {
            if (count >= told) {
                List<String> tried = new ArrayList<>(lines);
                StringBuilder rest = new StringBuilder();
                for (int k = told; k < count; k++) {
                    rest.append(' ').append(count == n * n ? full.get(k) : "0");
                }
                tried.add(rest.toString());
                tried.add("EOF");
                if (read(tried) != null) {
                    return true;
                }
            }
        }
        return false;
    }

    private static List<String> wordsOf(String line) {
        List<String> words = new ArrayList<>();
        for (String word : line.split(" ")) {
            if (!word.isEmpty()) {
                words.add(word);
            }
        }
        return words;
    }

    /** The distances that a good text tells; null when the lines are no good text. */
    static int[][] read(List<String> lines) {
        int n = 0;
        String type = "";
        String format = "";
        int at = 0;
        for (; at < lines.size(); at++) {
            String line = lines.get(at);
            Matcher dimension = DIMENSION.matcher(line);
            Matcher typed = TYPE.matcher(line);
            Matcher formed = FORMAT.matcher(line);
            if (dimension.matches() && n == 0) {
                n = Integer.parseInt(dimension.group(1));
                if (n < 3 || n > 8) {
                    return null;
                }
            } else if (typed.matches() && type.isEmpty()) {
                type = typed.group(1);
            } else if (formed.matches() && format.isEmpty() && type.equals("EXPLICIT")) {
                format = formed.group(1);
            } else if (!line.startsWith("COMMENT:")) {
                break;
            }
        }
        if (n == 0 || type.isEmpty() || type.equals("EXPLICIT") && format.isEmpty() || at >= lines.size()) {
            return null;
        }
        List<String> data = lines.subList(at + 1, lines.size());
        if (data.isEmpty() || !data.get(data.size() - 1).matches(" *EOF *")) {
            return null;
        }
        data = data.subList(0, data.size() - 1);
        String section = lines.get(at);
        if (type.equals("EXPLICIT")) {
            return section.matches(" *EDGE_WEIGHT_SECTION *") ? readNumbers(n, format, data) : null;
        }
        return section.matches(" *NODE_COORD_SECTION *") ? readPlaces(n, type, data) : null;
    }

    private static int[][] readNumbers(int n, String format, List<String> data) {
        List<String> words = new ArrayList<>();
        for (String line : data) {
            words.addAll(wordsOf(line));
        }
        int next = 0;
        int[][] distance = new int[n][n];
        boolean[][] known = new boolean[n][n];
        for (int i = 0; i < n; i++) {
            int from = format.equals("UPPER_ROW") ? i + 1 : 0;
            int to = format.equals("LOWER_DIAG_ROW") ? i : n - 1;
            for (int j = from; j <= to; j++) {
                if (next >= words.size() || !words.get(next).matches("[0-9]{1,4}")) {
                    return null;
                }
                int v = Integer.parseInt(words.get(next++));
                if (i == j && v != 0 || known[i][j] && distance[i][j] != v) {
                    return null;
                }
                distance[i][j] = v;
                distance[j][i] = v;
                known[j][i] = true;
            }
        }
        return next == words.size() ? distance : null;
    }

    private static int[][] readPlaces(int n, String type, List<String> data) {
        if (data.size() != n) {
            return null;
        }
        int[][] places = new int[n][];
        for (int k = 0; k < n; k++) {
            Matcher place = PLACE.matcher(data.get(k));
            if (!place.matches() || Integer.parseInt(place.group(1)) != k + 1) {
                return null;
            }
            places[k] = new int[] {Integer.parseInt(place.group(2)), Integer.parseInt(place.group(3))};
            if (Math.abs(places[k][0]) > 999 || Math.abs(places[k][1]) > 999) {
                return null;
            }
        }
        int[][] distance = new int[n][n];
        for (int i = 0; i < n; i++) {
            for (int j = 0; j < n; j++) {
                distance[i][j] = apart(type, places[i][0] - places[j][0], places[i][1] - places[j][1]);
            }
        }
        return distance;
    }

    private static int apart(String type, int dx, int dy) {
        double root = Math.sqrt((double) dx * dx + (double) dy * dy);
        return switch (type) {
            case "EUC_2D" -> (int) Math.round(root);
            case "CEIL_2D" -> (int) Math.ceil(root);
            default -> Math.abs(dx) + Math.abs(dy);
        };
    }
}
