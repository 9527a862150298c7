/** Rules for shapes on layers, checked over unions of rectangles. */
public final class DrcScan {
    public static final int AND = 0;
    public static final int OR = 1;
    public static final int LESS = 2;
    public static final int BAD = -2;
    public static final int FULL = -3;

    private static final int LAYERS = 3;
    private static final int MOST_RECTANGLES = 10;
    private static final int SIDE = 16;
    private static final int SPAN_BASE = 32;
    private static final int WIDEST_RULE = 8;

    private final int[] counts = new int[3];

    // A rectangle is kept as the two numbers it came in; a layer's rectangles
    // stand together, oldest first, from layer * MOST_RECTANGLES on.
    private final int[] columnSpans = new int[30];
    private final int[] rowSpans = new int[30];

    // The set of cells that the call in hand asks about. Each call fills it
    // anew, so nothing is carried from one call to the next.
    private final boolean[] set = new boolean[256];

    public DrcScan() {
    }

    public int add(int layer, int x, int y) {
        if (!isLayer(layer) || !isSpan(x) || !isSpan(y)) {
            return BAD;
        }
        if (counts[layer] >= MOST_RECTANGLES) {
            return FULL;
        }
        int slot = layer * MOST_RECTANGLES + counts[layer];
        columnSpans[slot] = x;
        rowSpans[slot] = y;
        counts[layer]++;
        return counts[layer];
    }

    public int drop(int layer) {
        if (!isLayer(layer) || counts[layer] == 0) {
            return BAD;
        }
        int left = counts[layer] - 1;
        int first = layer * MOST_RECTANGLES;
        for (int n = 0; n < left; n++) {
            columnSpans[first + n] = columnSpans[first + n + 1];
            rowSpans[first + n] = rowSpans[first + n + 1];
        }
        counts[layer] = left;
        return left;
    }

    public boolean covers(int layer, int i, int j) {
        if (!isLayer(layer) || !isCell(i, j)) {
            return false;
        }
        int first = layer * MOST_RECTANGLES;
        for (int n = 0; n < counts[layer]; n++) {
            if (inSpan(columnSpans[first + n], i) && inSpan(rowSpans[first + n], j)) {
                return true;
            }
        }
        return false;
    }

    public int area(int how, int a, int b) {
        if (!isCombination(how, a, b)) {
            return BAD;
        }
        fillSet(how, a, b);
        int cells = 0;
        for (int j = 0; j < SIDE; j++) {
            for (int i = 0; i < SIDE; i++) {
                if (inSet(i, j)) {
                    cells++;
                }
            }
        }
        return cells;
    }

    public int outline(int how, int a, int b) {
        if (!isCombination(how, a, b)) {
            return BAD;
        }
        fillSet(how, a, b);
        int edges = 0;
        for (int j = 0; j < SIDE; j++) {
            for (int i = 0; i < SIDE; i++) {
                if (inSet(i, j)) {
                    edges += edgesOfCell(i, j);
                }
            }
        }
        return edges;
    }

    public int corners(int how, int a, int b) {
        if (!isCombination(how, a, b)) {
            return BAD;
        }
        fillSet(how, a, b);
        int points = 0;
        // Points, unlike cells, also lie on the far sides of the plane.
        for (int y = 0; y <= SIDE; y++) {
            for (int x = 0; x <= SIDE; x++) {
                if (isPlainCorner(x, y)) {
                    points++;
                }
            }
        }
        return points;
    }

    public int thin(int layer, int w) {
        if (!isLayer(layer) || !isRule(w)) {
            return BAD;
        }
        fillSet(OR, layer, layer);
        return cellsInShortRuns(true, w);
    }

    public int gaps(int layer, int s) {
        if (!isLayer(layer) || !isRule(s)) {
            return BAD;
        }
        fillSet(OR, layer, layer);
        return cellsInShortRuns(false, s);
    }

    public int enclosure(int a, int b) {
        if (!isLayer(a) || !isLayer(b)) {
            return BAD;
        }
        // A margin fails just when it reaches from a cell of b to a cell that a
        // lacks, so the greatest good one is one less than the least such reach.
        int reach = WIDEST_RULE + 1;
        for (int j = 0; j < SIDE; j++) {
            for (int i = 0; i < SIDE; i++) {
                if (!covers(a, i, j)) {
                    reach = reachToShape(b, i, j, reach);
                }
            }
        }
        return reach - 1;
    }

    private static boolean isLayer(int layer) {
        return layer >= 0 && layer < LAYERS;
    }

    private static boolean isCell(int i, int j) {
        return i >= 0 && i < SIDE && j >= 0 && j < SIDE;
    }

    private static boolean isRule(int width) {
        return width >= 1 && width <= WIDEST_RULE;
    }

    private static boolean isCombination(int how, int a, int b) {
        return how >= AND && how <= LESS && isLayer(a) && isLayer(b);
    }

    private static boolean isSpan(int span) {
        if (span < 0) {
            return false;
        }
        int start = span / SPAN_BASE;
        int end = span % SPAN_BASE;
        return start < end && end <= SIDE;
    }

    private static boolean inSpan(int span, int place) {
        return place >= span / SPAN_BASE && place < span % SPAN_BASE;
    }

    private void fillSet(int how, int a, int b) {
        for (int j = 0; j < SIDE; j++) {
            for (int i = 0; i < SIDE; i++) {
                boolean inA = covers(a, i, j);
                boolean inB = covers(b, i, j);
                set[j * SIDE + i] = inCombination(how, inA, inB);
            }
        }
    }

    private static boolean inCombination(int how, boolean inA, boolean inB) {
        if (how == AND) {
            return inA && inB;
        }
        if (how == OR) {
            return inA || inB;
        }
        return inA && !inB;
    }

    private boolean inSet(int i, int j) {
        return isCell(i, j) && set[j * SIDE + i];
    }

    private int edgesOfCell(int i, int j) {
        int edges = 0;
        if (!inSet(i - 1, j)) {
            edges++;
        }
        if (!inSet(i + 1, j)) {
            edges++;
        }
        if (!inSet(i, j - 1)) {
            edges++;
        }
        if (!inSet(i, j + 1)) {
            edges++;
        }
        return edges;
    }

    private boolean isPlainCorner(int x, int y) {
        boolean lowLeft = inSet(x - 1, y - 1);
        boolean lowRight = inSet(x, y - 1);
        boolean highLeft = inSet(x - 1, y);
        boolean highRight = inSet(x, y);
        boolean edgeBelow = lowLeft != lowRight;
        boolean edgeAbove = highLeft != highRight;
        boolean edgeLeft = lowLeft != highLeft;
        boolean edgeRight = lowRight != highRight;
        return edgeBelow != edgeAbove && edgeLeft != edgeRight;
    }

    private int cellsInShortRuns(boolean ofSet, int limit) {
        int cells = 0;
        for (int j = 0; j < SIDE; j++) {
            for (int i = 0; i < SIDE; i++) {
                if (inSet(i, j) == ofSet
                        && (inShortRun(i, j, 1, 0, limit) || inShortRun(i, j, 0, 1, limit))) {
                    cells++;
                }
            }
        }
        return cells;
    }

    /** Whether the run of cells like (i, j) along a direction is closed at both ends and below the limit. */
    private boolean inShortRun(int i, int j, int stepI, int stepJ, int limit) {
        boolean other = !inSet(i, j);
        int back = stepsTo(i, j, -stepI, -stepJ, other);
        int ahead = stepsTo(i, j, stepI, stepJ, other);
        return back > 0 && ahead > 0 && back + ahead - 1 < limit;
    }

    /** The steps to the nearest cell that is in the set, or is not, as wanted; 0 if there is none. */
    private int stepsTo(int i, int j, int stepI, int stepJ, boolean wanted) {
        // SIDE steps always leave the plane, whose outside is in no set: so a
        // run of set cells is always closed, and a run of others may be open.
        for (int n = 1; n <= SIDE; n++) {
            if (inSet(i + n * stepI, j + n * stepJ) == wanted) {
                return n;
            }
        }
        return 0;
    }

    /** The reach, in columns and rows alike, from (i, j) to the nearest cell of a layer, if below the limit. */
    private int reachToShape(int layer, int i, int j, int limit) {
        int reach = limit;
        for (int q = 0; q < SIDE; q++) {
            for (int p = 0; p < SIDE; p++) {
                int columns = p < i ? i - p : p - i;
                int rows = q < j ? j - q : q - j;
                int away = columns > rows ? columns : rows;
                if (away < reach && covers(layer, p, q)) {
                    reach = away;
                }
            }
        }
        return reach;
    }
}
