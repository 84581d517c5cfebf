import java.util.Arrays;

/**
 * Finds least round tours among three to eight cities, bounds them from below by one-trees with
 * potentials, and checks lists of cases that are to prove a bound.
 *
 * <p>All rows are made once, in the constructors, and used again by every call, so that a long run
 * of calls makes no new objects.
 */
public final class OneTreeTours {
    public static final int BAD = -1;
    public static final int NONE = -2000000;

    private static final int LEAST_CITIES = 3;
    private static final int MOST_CITIES = 8;
    private static final int MOST_EDGES = 28;
    private static final int MOST_CASES = 10;
    private static final int MOST_CHARACTERS = 480;
    private static final int MOST_POTENTIAL = 100000;
    private static final int MOST_STEP = 1000;

    private final Text text;
    private final Reader reader;
    private final Land land;
    private final OneTree tree;
    private final TourList tours;
    private final Round round;
    private final Cases cases;

    public OneTreeTours() {
        text = new Text();
        reader = new Reader(text);
        land = new Land();
        tree = new OneTree(land);
        tours = new TourList(land);
        round = new Round(land);
        cases = new Cases();
    }

    public boolean write(long characters) {
        return text.append(characters);
    }

    public void wipe() {
        text.length = 0;
    }

    public int load() {
        int answer = reader.read();
        if (answer == 0) {
            land.settle(reader.dimension, reader.distances);
            tours.listAll();
            round.known = false;
            cases.count = 0;
        }
        return answer;
    }

    public int size() {
        return land.cities;
    }

    public int distance(int i, int j) {
        return land.isCity(i) && land.isCity(j) ? land.between(i, j) : BAD;
    }

    public boolean mark(int i, int j, int mark) {
        if (!land.isCity(i) || !land.isCity(j) || i == j || mark < 0 || mark > 2) {
            return false;
        }
        land.putMark(land.edgeBit(i, j), mark);
        return true;
    }

    public boolean lift(int city, int v) {
        if (!land.isCity(city) || !isPotential(v)) {
            return false;
        }
        land.potentials[city] = v;
        return true;
    }

    public int potential(int city) {
        return land.isCity(city) ? land.potentials[city] : 0;
    }

    public int bound() {
        return tree.boundUnder(land.required, land.forbidden);
    }

    public int degree(int city) {
        if (!land.isCity(city) || !tree.grow(land.required, land.forbidden)) {
            return BAD;
        }
        return tree.degrees[city];
    }

    public int ascend(int step) {
        if (step < 1 || step > MOST_STEP || !tree.grow(land.required, land.forbidden)) {
            return BAD;
        }
        for (int city = 0; city < land.cities; city++) {
            if (!isPotential(ascended(city, step))) {
                return BAD;
            }
        }
        for (int city = 0; city < land.cities; city++) {
            land.potentials[city] = ascended(city, step);
        }
        return bound();
    }

    public int solve() {
        int best = tours.firstLeast();
        if (best < 0) {
            return NONE;
        }
        round.follow(tours.edgeSets[best]);
        return tours.lengths[best];
    }

    public int ties() {
        return tours.countLeast();
    }

    public int improve() {
        if (land.cities == 0) {
            return NONE;
        }
        round.goToNearest();
        round.shorten();
        round.turnToOrder();
        return round.measure();
    }

    public int tour(int k) {
        return round.known && land.isCity(k) ? round.row[k] : BAD;
    }

    public int add(int with, int without) {
        if (land.cities == 0 || !land.areEdges(with | without) || (with & without) != 0) {
            return BAD;
        }
        return cases.append(with, without) ? cases.count : NONE;
    }

    public void drop() {
        cases.count = 0;
    }

    public boolean covers() {
        if (land.cities == 0) {
            return false;
        }
        for (int k = 0; k < tours.count; k++) {
            if (tours.isAllowed(k) && !cases.anyHolds(tours.edgeSets[k])) {
                return false;
            }
        }
        return true;
    }

    public int caseBound(int k) {
        if (k < 0 || k >= cases.count) {
            return BAD;
        }
        return tree.boundUnder(cases.with[k], cases.without[k]);
    }

    public boolean proves(int value) {
        if (!covers()) {
            return false;
        }
        for (int k = 0; k < cases.count; k++) {
            int least = caseBound(k);
            if (least != NONE && least < value) {
                return false;
            }
        }
        return true;
    }

    private static boolean isPotential(int v) {
        return v >= -MOST_POTENTIAL && v <= MOST_POTENTIAL;
    }

    private int ascended(int city, int step) {
        return land.potentials[city] + step * (tree.degrees[city] - 2);
    }

    /** Whether a set of edges has all of one set and none of another. */
    private static boolean keepsTo(int edges, int with, int without) {
        return (edges & with) == with && (edges & without) == 0;
    }

    private static void turnRound(int[] row, int first, int last) {
        int i = first;
        for (int j = last; i < j; j--) {
            int kept = row[i];
            row[i] = row[j];
            row[j] = kept;
            i++;
        }
    }

    /** The characters that were written and not yet wiped. */
    private static final class Text {
        private static final int BYTES = 8;

        final char[] characters = new char[MOST_CHARACTERS];
        int length = 0;

        boolean append(long packed) {
            int more = countGood(packed);
            if (more < 0 || length + more > MOST_CHARACTERS) {
                return false;
            }
            for (int k = 0; k < BYTES; k++) {
                int code = byteOf(packed, k);
                if (code != 0) {
                    characters[length] = (char) code;
                    length++;
                }
            }
            return true;
        }

        /** How many characters there are among the bytes; -1 when one is neither 0 nor good. */
        private static int countGood(long packed) {
            int good = 0;
            for (int k = 0; k < BYTES; k++) {
                int code = byteOf(packed, k);
                if (code == '\n' || code >= ' ' && code <= '~') {
                    good++;
                } else if (code != 0) {
                    return -1;
                }
            }
            return good;
        }

        private static int byteOf(long packed, int k) {
            return (int) (packed >>> (8 * k)) & 255;
        }
    }

    /** One ended line of the text, parted into its words. */
    private static final class Line {
        /** Below every number that four digits can tell, so each check of a range refuses it. */
        private static final int NO_NUMBER = -10000;

        private static final int MOST_DIGITS = 4;

        /** Words have a blank or the line's end behind them, so two characters each at least. */
        private static final int MOST_WORDS = MOST_CHARACTERS / 2;

        private final char[] characters;
        private final int[] starts = new int[MOST_WORDS];
        private final int[] ends = new int[MOST_WORDS];
        private int from = 0;
        private int to = 0;
        int words = 0;

        Line(Text text) {
            characters = text.characters;
        }

        void part(int first, int behind) {
            from = first;
            to = behind;
            words = 0;
            for (int at = from; at < to; at++) {
                if (characters[at] == ' ') {
                    continue;
                }
                if (at == from || characters[at - 1] == ' ') {
                    starts[words] = at;
                    words++;
                }
                ends[words - 1] = at + 1;
            }
        }

        boolean beginsWith(String wanted) {
            return to - from >= wanted.length() && stands(from, wanted);
        }

        boolean wordIs(int k, String wanted) {
            return k < words && ends[k] - starts[k] == wanted.length() && stands(starts[k], wanted);
        }

        int number(int k) {
            if (k >= words) {
                return NO_NUMBER;
            }
            boolean negative = characters[starts[k]] == '-';
            int value = digits(negative ? starts[k] + 1 : starts[k], ends[k]);
            if (value < 0) {
                return NO_NUMBER;
            }
            return negative ? -value : value;
        }

        /** The number that a word without '-' tells; -1 when it tells none. */
        int unsigned(int k) {
            return k < words ? digits(starts[k], ends[k]) : -1;
        }

        private boolean stands(int at, String wanted) {
            for (int k = 0; k < wanted.length(); k++) {
                if (characters[at + k] != wanted.charAt(k)) {
                    return false;
                }
            }
            return true;
        }

        private int digits(int first, int behind) {
            if (first >= behind || behind - first > MOST_DIGITS) {
                return -1;
            }
            int value = 0;
            for (int at = first; at < behind; at++) {
                char c = characters[at];
                if (c < '0' || c > '9') {
                    return -1;
                }
                value = 10 * value + (c - '0');
            }
            return value;
        }
    }

    /**
     * Reads the text line by line. It keeps what it read to itself, so that a text that turns out
     * not to be good changes nothing.
     */
    private static final class Reader {
        private static final int HEAD = 0;
        private static final int DATA = 1;
        private static final int ENDED = 2;

        private static final int UNTOLD = 0;
        private static final int EXPLICIT = 1;
        private static final int EUC_2D = 2;
        private static final int CEIL_2D = 3;
        private static final int MAN_2D = 4;

        private static final int FULL_MATRIX = 1;
        private static final int UPPER_ROW = 2;
        private static final int LOWER_DIAG_ROW = 3;

        private static final int MOST_PLACE = 999;

        private final Text text;
        private final Line line;
        private int stage = HEAD;
        private int type = UNTOLD;
        private int format = UNTOLD;
        private int row = 0;
        private int column = 0;
        private final int[] xs = new int[MOST_CITIES];
        private final int[] ys = new int[MOST_CITIES];
        int dimension = UNTOLD;
        final int[] distances = new int[MOST_CITIES * MOST_CITIES];

        Reader(Text source) {
            text = source;
            line = new Line(source);
        }

        /** 0 when the text is good; otherwise -k, k being the first line that no good text has. */
        int read() {
            begin();
            int number = 1;
            int from = 0;
            for (int at = 0; at < text.length; at++) {
                if (text.characters[at] == '\n') {
                    line.part(from, at);
                    if (!accepts()) {
                        return -number;
                    }
                    number++;
                    from = at + 1;
                }
            }
            return stage == ENDED && from == text.length ? 0 : -number;
        }

        private void begin() {
            stage = HEAD;
            dimension = UNTOLD;
            type = UNTOLD;
            format = UNTOLD;
            Arrays.fill(distances, 0);
        }

        private boolean accepts() {
            if (stage == HEAD) {
                return acceptsHead();
            }
            if (stage == ENDED) {
                return false;
            }
            return type == EXPLICIT ? acceptsDistances() : acceptsPlace();
        }

        private boolean acceptsHead() {
            if (line.beginsWith("COMMENT:")) {
                return true;
            }
            if (line.words == 1) {
                return acceptsSection();
            }
            if (line.words != 2) {
                return false;
            }
            if (line.wordIs(0, "DIMENSION:")) {
                return acceptsDimension();
            }
            if (line.wordIs(0, "EDGE_WEIGHT_TYPE:")) {
                return acceptsType();
            }
            return line.wordIs(0, "EDGE_WEIGHT_FORMAT:") && acceptsFormat();
        }

        private boolean acceptsDimension() {
            int told = line.number(1);
            if (dimension != UNTOLD || told < LEAST_CITIES || told > MOST_CITIES) {
                return false;
            }
            dimension = told;
            return true;
        }

        private boolean acceptsType() {
            if (type != UNTOLD) {
                return false;
            }
            if (line.wordIs(1, "EXPLICIT")) {
                type = EXPLICIT;
            } else if (line.wordIs(1, "EUC_2D")) {
                type = EUC_2D;
            } else if (line.wordIs(1, "CEIL_2D")) {
                type = CEIL_2D;
            } else if (line.wordIs(1, "MAN_2D")) {
                type = MAN_2D;
            }
            return type != UNTOLD;
        }

        private boolean acceptsFormat() {
            if (type != EXPLICIT || format != UNTOLD) {
                return false;
            }
            if (line.wordIs(1, "FULL_MATRIX")) {
                format = FULL_MATRIX;
            } else if (line.wordIs(1, "UPPER_ROW")) {
                format = UPPER_ROW;
            } else if (line.wordIs(1, "LOWER_DIAG_ROW")) {
                format = LOWER_DIAG_ROW;
            }
            return format != UNTOLD;
        }

        private boolean acceptsSection() {
            if (dimension == UNTOLD || type == UNTOLD || type == EXPLICIT && format == UNTOLD) {
                return false;
            }
            String wanted = type == EXPLICIT ? "EDGE_WEIGHT_SECTION" : "NODE_COORD_SECTION";
            if (!line.wordIs(0, wanted)) {
                return false;
            }
            stage = DATA;
            row = 0;
            column = firstColumn();
            return true;
        }

        private boolean acceptsEnd() {
            if (line.words != 1 || !line.wordIs(0, "EOF")) {
                return false;
            }
            stage = ENDED;
            return true;
        }

        private boolean acceptsDistances() {
            if (row >= rows() && line.words > 0) {
                return acceptsEnd();
            }
            for (int k = 0; k < line.words; k++) {
                int told = line.unsigned(k);
                if (row >= rows() || told < 0 || !fits(told)) {
                    return false;
                }
                distances[row * MOST_CITIES + column] = told;
                distances[column * MOST_CITIES + row] = told;
                goToNextCell();
            }
            return true;
        }

        /** Whether the distance can stand at the row and column that are reached. */
        private boolean fits(int told) {
            if (row == column) {
                return told == 0;
            }
            boolean toldBefore = format == FULL_MATRIX && column < row;
            return !toldBefore || told == distances[row * MOST_CITIES + column];
        }

        private int rows() {
            return format == UPPER_ROW ? dimension - 1 : dimension;
        }

        private int firstColumn() {
            return format == UPPER_ROW ? row + 1 : 0;
        }

        private int lastColumn() {
            return format == LOWER_DIAG_ROW ? row : dimension - 1;
        }

        private void goToNextCell() {
            if (column < lastColumn()) {
                column++;
            } else {
                row++;
                column = firstColumn();
            }
        }

        private boolean acceptsPlace() {
            if (row >= dimension) {
                return acceptsEnd();
            }
            int x = line.number(1);
            int y = line.number(2);
            if (line.words != 3 || line.number(0) != row + 1 || !isPlace(x) || !isPlace(y)) {
                return false;
            }
            xs[row] = x;
            ys[row] = y;
            for (int other = 0; other < row; other++) {
                int apart = apart(Math.abs(x - xs[other]), Math.abs(y - ys[other]));
                distances[row * MOST_CITIES + other] = apart;
                distances[other * MOST_CITIES + row] = apart;
            }
            row++;
            return true;
        }

        private static boolean isPlace(int v) {
            return v >= -MOST_PLACE && v <= MOST_PLACE;
        }

        private int apart(int dx, int dy) {
            if (type == MAN_2D) {
                return dx + dy;
            }
            int square = dx * dx + dy * dy;
            int root = wholeRoot(square);
            // The square of a number and a half is never whole, so no root lies in the middle.
            int stays = type == EUC_2D ? root * root + root : root * root;
            return square > stays ? root + 1 : root;
        }

        /** The greatest whole number whose square is not above the given one. */
        private static int wholeRoot(int square) {
            int root = 0;
            for (int bit = 1 << 11; bit > 0; bit >>= 1) {
                int tried = root + bit;
                if (tried * tried <= square) {
                    root = tried;
                }
            }
            return root;
        }
    }

    /** The cities and edges with their distances, marks and potentials. */
    private static final class Land {
        private final int[] distances = new int[MOST_CITIES * MOST_CITIES];
        private final int[] numbers = new int[MOST_CITIES * MOST_CITIES];
        final int[] lower = new int[MOST_EDGES];
        final int[] upper = new int[MOST_EDGES];
        final int[] potentials = new int[MOST_CITIES];
        int cities = 0;
        int edges = 0;
        int required = 0;
        int forbidden = 0;

        void settle(int dimension, int[] told) {
            cities = dimension;
            System.arraycopy(told, 0, distances, 0, distances.length);
            Arrays.fill(potentials, 0);
            required = 0;
            forbidden = 0;
            numberEdges();
        }

        private void numberEdges() {
            edges = 0;
            for (int i = 0; i < cities; i++) {
                for (int j = i + 1; j < cities; j++) {
                    lower[edges] = i;
                    upper[edges] = j;
                    numbers[i * MOST_CITIES + j] = edges;
                    numbers[j * MOST_CITIES + i] = edges;
                    edges++;
                }
            }
        }

        boolean isCity(int i) {
            return i >= 0 && i < cities;
        }

        boolean areEdges(int set) {
            return set >>> edges == 0;
        }

        int between(int i, int j) {
            return distances[i * MOST_CITIES + j];
        }

        int edgeBit(int i, int j) {
            return 1 << numbers[i * MOST_CITIES + j];
        }

        void putMark(int bit, int mark) {
            required = mark == 1 ? required | bit : required & ~bit;
            forbidden = mark == 2 ? forbidden | bit : forbidden & ~bit;
        }

        int sumOfPotentials() {
            int sum = 0;
            for (int i = 0; i < cities; i++) {
                sum += potentials[i];
            }
            return sum;
        }
    }

    /**
     * Grows the one-tree edge by edge. Taking always the lightest edge that fits, of several as
     * light the one with the least number, leads to the least weight and among those to the least
     * sum of powers of two.
     */
    private static final class OneTree {
        private final Land land;
        private final int[] parts = new int[MOST_CITIES];
        private int taken = 0;
        private int count = 0;
        private int weight = 0;
        final int[] degrees = new int[MOST_CITIES];

        OneTree(Land around) {
            land = around;
        }

        int boundUnder(int required, int forbidden) {
            return grow(required, forbidden) ? weight - 2 * land.sumOfPotentials() : NONE;
        }

        /** False when there is no one-tree with all required edges and no forbidden one. */
        boolean grow(int required, int forbidden) {
            clear();
            for (int edge = 0; edge < land.edges; edge++) {
                if ((required >> edge & 1) != 0) {
                    if (!fits(edge)) {
                        return false;
                    }
                    take(edge);
                }
            }
            for (int k = count; k < land.cities; k++) {
                int edge = lightest(forbidden);
                if (edge < 0) {
                    return false;
                }
                take(edge);
            }
            return land.cities > 0;
        }

        private void clear() {
            taken = 0;
            count = 0;
            weight = 0;
            for (int i = 0; i < MOST_CITIES; i++) {
                parts[i] = i;
                degrees[i] = 0;
            }
        }

        private int lightest(int forbidden) {
            int unusable = taken | forbidden;
            int best = -1;
            for (int edge = 0; edge < land.edges; edge++) {
                boolean usable = (unusable >> edge & 1) == 0 && fits(edge);
                if (usable && (best < 0 || weigh(edge) < weigh(best))) {
                    best = edge;
                }
            }
            return best;
        }

        private boolean fits(int edge) {
            int i = land.lower[edge];
            return i == 0 ? degrees[0] < 2 : parts[i] != parts[land.upper[edge]];
        }

        private int weigh(int edge) {
            int i = land.lower[edge];
            int j = land.upper[edge];
            return land.between(i, j) + land.potentials[i] + land.potentials[j];
        }

        private void take(int edge) {
            int i = land.lower[edge];
            int j = land.upper[edge];
            taken |= 1 << edge;
            count++;
            weight += weigh(edge);
            degrees[i]++;
            degrees[j]++;
            // The edges at city 0 are no part of the tree that joins the others.
            if (i != 0) {
                join(parts[i], parts[j]);
            }
        }

        private void join(int part, int other) {
            for (int i = 0; i < MOST_CITIES; i++) {
                if (parts[i] == other) {
                    parts[i] = part;
                }
            }
        }
    }

    /** All tours of the cities, each before those that come behind it, as sets of edges. */
    private static final class TourList {
        private static final int MOST_ROWS = 5040;

        private final Land land;
        private final int[] row = new int[MOST_CITIES];
        final int[] edgeSets = new int[MOST_ROWS / 2];
        final int[] lengths = new int[MOST_ROWS / 2];
        int count = 0;

        TourList(Land around) {
            land = around;
        }

        void listAll() {
            count = 0;
            for (int i = 0; i < MOST_CITIES; i++) {
                row[i] = i;
            }
            boolean more = true;
            for (int k = 0; k < MOST_ROWS && more; k++) {
                if (row[1] < row[land.cities - 1]) {
                    append();
                }
                more = goToNextRow();
            }
        }

        /** The place in the list of the allowed tour that is to be found; -1 when there is none. */
        int firstLeast() {
            int best = -1;
            for (int k = 0; k < count; k++) {
                if (isAllowed(k) && (best < 0 || lengths[k] < lengths[best])) {
                    best = k;
                }
            }
            return best;
        }

        int countLeast() {
            int best = firstLeast();
            if (best < 0) {
                return 0;
            }
            int found = 0;
            for (int k = best; k < count; k++) {
                if (lengths[k] == lengths[best] && isAllowed(k)) {
                    found++;
                }
            }
            return found;
        }

        boolean isAllowed(int k) {
            return keepsTo(edgeSets[k], land.required, land.forbidden);
        }

        private void append() {
            int edgeSet = 0;
            int length = 0;
            int before = row[land.cities - 1];
            for (int k = 0; k < land.cities; k++) {
                edgeSet |= land.edgeBit(before, row[k]);
                length += land.between(before, row[k]);
                before = row[k];
            }
            edgeSets[count] = edgeSet;
            lengths[count] = length;
            count++;
        }

        /** Orders all but city 0 to the next row of the cities; false when this was the last. */
        private boolean goToNextRow() {
            int last = land.cities - 1;
            int rise = last - 1;
            while (rise >= 1 && row[rise] > row[rise + 1]) {
                rise--;
            }
            if (rise < 1) {
                return false;
            }
            int greater = last;
            while (greater > rise + 1 && row[greater] < row[rise]) {
                greater--;
            }
            int kept = row[rise];
            row[rise] = row[greater];
            row[greater] = kept;
            turnRound(row, rise + 1, last);
            return true;
        }
    }

    /** The tour, if there is one. */
    private static final class Round {
        /** Each turn makes the round shorter by one at least, and none is as long as this. */
        private static final int MOST_TURNS = 1000000;

        private final Land land;
        final int[] row = new int[MOST_CITIES];
        boolean known = false;

        Round(Land around) {
            land = around;
        }

        /** Takes the tour with these edges. */
        void follow(int edgeSet) {
            int met = 1;
            row[0] = 0;
            for (int k = 1; k < land.cities; k++) {
                // Of the two ways from city 0 the lesser is met first, as a tour wants it.
                for (int city = land.cities - 1; city > 0; city--) {
                    boolean joined = (edgeSet & land.edgeBit(row[k - 1], city)) != 0;
                    if ((met >> city & 1) == 0 && joined) {
                        row[k] = city;
                    }
                }
                met |= 1 << row[k];
            }
            known = true;
        }

        void goToNearest() {
            int met = 1;
            row[0] = 0;
            for (int k = 1; k < land.cities; k++) {
                row[k] = nearest(row[k - 1], met);
                met |= 1 << row[k];
            }
            known = true;
        }

        private int nearest(int from, int met) {
            int best = 0;
            for (int city = 1; city < land.cities; city++) {
                boolean open = (met >> city & 1) == 0;
                if (open && (best == 0 || land.between(from, city) < land.between(from, best))) {
                    best = city;
                }
            }
            return best;
        }

        void shorten() {
            boolean turned = true;
            for (int k = 0; k < MOST_TURNS && turned; k++) {
                turned = turnOnce();
            }
        }

        private boolean turnOnce() {
            for (int i = 1; i < land.cities; i++) {
                for (int j = i + 1; j < land.cities; j++) {
                    if (gain(i, j) > 0) {
                        turnRound(row, i, j);
                        return true;
                    }
                }
            }
            return false;
        }

        /** By how much the round gets shorter when what stands from i to j is turned round. */
        private int gain(int i, int j) {
            int before = row[i - 1];
            int behind = j + 1 < land.cities ? row[j + 1] : row[0];
            int now = land.between(before, row[i]) + land.between(row[j], behind);
            int then = land.between(before, row[j]) + land.between(row[i], behind);
            return now - then;
        }

        void turnToOrder() {
            int last = land.cities - 1;
            if (last > 1 && row[1] > row[last]) {
                turnRound(row, 1, last);
            }
        }

        int measure() {
            int length = 0;
            for (int k = 0; k < land.cities; k++) {
                int next = k + 1 < land.cities ? row[k + 1] : row[0];
                length += land.between(row[k], next);
            }
            return length;
        }
    }

    /** The cases that are to prove a bound. */
    private static final class Cases {
        final int[] with = new int[MOST_CASES];
        final int[] without = new int[MOST_CASES];
        int count = 0;

        boolean append(int first, int second) {
            if (count >= MOST_CASES) {
                return false;
            }
            with[count] = first;
            without[count] = second;
            count++;
            return true;
        }

        boolean anyHolds(int edgeSet) {
            for (int k = 0; k < count; k++) {
                if (keepsTo(edgeSet, with[k], without[k])) {
                    return true;
                }
            }
            return false;
        }
    }
}
