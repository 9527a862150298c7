/** For each promise of the document: ordinary inputs, the edges it names, and wrong inputs. */
public final class DrcScanPromises {
    private static final int LOW = Integer.MIN_VALUE;
    private static final int HIGH = Integer.MAX_VALUE;
    private static int wrong = 0;

    public static void main(String[] args) {
        constants();
        newObject();
        addCounts();
        addRefuses();
        addOrderOfTests();
        dropTakesTheOldest();
        dropRefuses();
        coversCells();
        coversOutOfRange();
        areaCombines();
        outlineCountsEdges();
        cornersArePlain();
        combinationRefuses();
        thinCells();
        thinRefuses();
        gapCells();
        gapsRefuse();
        enclosureMargins();
        enclosureAtThePlanesSides();
        enclosureRefuses();
        questionsChangeNothing();
        objectsAreApart();
        System.out.println(wrong == 0 ? "all promises hold" : wrong + " answers are not as due");
        if (wrong != 0) {
            System.exit(1);
        }
    }

    private static void due(String what, int got, int want) {
        if (got != want) {
            wrong++;
            System.out.println(what + " answered " + got + ", due is " + want);
        }
    }

    private static void due(String what, boolean got, boolean want) {
        if (got != want) {
            wrong++;
            System.out.println(what + " answered " + got + ", due is " + want);
        }
    }

    private static int rect(DrcScan x, int layer, int left, int bottom, int right, int top) {
        return x.add(layer, 32 * left + right, 32 * bottom + top);
    }

    private static DrcScan with(int... numbers) {
        DrcScan x = new DrcScan();
        for (int n = 0; n < numbers.length; n += 5) {
            int answer = rect(x, numbers[n], numbers[n + 1], numbers[n + 2], numbers[n + 3], numbers[n + 4]);
            due("rectangle " + n / 5 + " is taken", answer > 0, true);
        }
        return x;
    }

    private static void constants() {
        due("AND", DrcScan.AND, 0);
        due("OR", DrcScan.OR, 1);
        due("LESS", DrcScan.LESS, 2);
        due("BAD", DrcScan.BAD, -2);
        due("FULL", DrcScan.FULL, -3);
    }

    private static void newObject() {
        DrcScan x = new DrcScan();
        for (int layer = 0; layer < 3; layer++) {
            due("1: area of a new layer", x.area(DrcScan.OR, layer, layer), 0);
            due("1: outline of a new layer", x.outline(DrcScan.OR, layer, layer), 0);
            due("1: corners of a new layer", x.corners(DrcScan.OR, layer, layer), 0);
            due("1: thin of a new layer", x.thin(layer, 8), 0);
            due("1: gaps of a new layer", x.gaps(layer, 8), 0);
            due("1: covers in a new layer", x.covers(layer, 0, 0), false);
            due("1: enclosure of new layers", x.enclosure(layer, 2 - layer), 8);
            due("1: drop from a new layer", x.drop(layer), DrcScan.BAD);
        }
        for (int layer = 0; layer < 3; layer++) {
            due("1: add to a new layer", rect(x, layer, 3, 3, 4, 4), 1);
        }
    }

    private static void addCounts() {
        DrcScan x = new DrcScan();
        for (int n = 1; n <= 10; n++) {
            due("2: add the " + n + "th", rect(x, 1, n, 0, n + 1, 1), n);
        }
        due("2: add the 11th", rect(x, 1, 0, 0, 1, 1), DrcScan.FULL);
        due("2: the 11th is not there", x.covers(1, 0, 0), false);
        due("2: all ten are there", x.area(DrcScan.OR, 1, 1), 10);
        due("2: another layer has room", rect(x, 0, 0, 0, 1, 1), 1);
        due("2: and the third", rect(x, 2, 0, 0, 1, 1), 1);
        due("2: drop makes room", x.drop(1), 9);
        due("2: one more", rect(x, 1, 0, 5, 1, 6), 10);
        due("2: it is there", x.covers(1, 0, 5), true);
        due("2: full again", rect(x, 1, 0, 0, 1, 1), DrcScan.FULL);
        due("2: same rectangle twice counts twice", rect(x, 0, 0, 0, 1, 1), 2);
        due("2: last layer's tenth does not spill", x.area(DrcScan.OR, 2, 2), 1);
    }

    private static void addRefuses() {
        DrcScan x = new DrcScan();
        int[] badSpans = {0, 17, 31, 32, 33, 64, 66, 32 * 5 + 4, 32 * 3 + 17, 32 * 15 + 15, 32 * 15 + 17,
            32 * 15 + 31, 512, 32 * 16 + 16, 32 * 16 + 17, 32 * 17 + 18, 1024 + 5, HIGH, -1, -31, -16, -32, LOW,
            LOW + 16, 65536 + 1};
        for (int bad : badSpans) {
            due("2: x " + bad, x.add(0, bad, 16), DrcScan.BAD);
            due("2: y " + bad, x.add(0, 16, bad), DrcScan.BAD);
        }
        int[] badLayers = {-1, 3, 4, LOW, HIGH};
        for (int bad : badLayers) {
            due("2: layer " + bad, x.add(bad, 16, 16), DrcScan.BAD);
        }
        for (int layer = 0; layer < 3; layer++) {
            due("2: nothing was added", x.area(DrcScan.OR, layer, layer), 0);
        }
        int[] goodSpans = {1, 16, 34, 32 + 16, 32 * 15 + 16, 32 * 7 + 8};
        int n = 0;
        for (int good : goodSpans) {
            n++;
            due("2: good x " + good, x.add(1, good, 16), n);
            due("2: good y " + good, x.add(2, 16, good), n);
        }
    }

    private static void addOrderOfTests() {
        DrcScan x = new DrcScan();
        for (int n = 0; n < 10; n++) {
            rect(x, 2, 0, 0, 1, 1);
        }
        due("2: BAD before FULL, x", x.add(2, 0, 1), DrcScan.BAD);
        due("2: BAD before FULL, y", x.add(2, 1, 33), DrcScan.BAD);
        due("2: FULL", x.add(2, 1, 1), DrcScan.FULL);
    }

    private static void dropTakesTheOldest() {
        DrcScan x = with(0, 0, 0, 1, 1, 0, 4, 4, 6, 6, 0, 5, 5, 7, 7, 1, 0, 0, 2, 2);
        due("3: first drop", x.drop(0), 2);
        due("3: the oldest is gone", x.covers(0, 0, 0), false);
        due("3: the second stays", x.covers(0, 4, 4), true);
        due("3: the third stays", x.covers(0, 6, 6), true);
        due("3: area after", x.area(DrcScan.OR, 0, 0), 7);
        due("3: other layer untouched", x.area(DrcScan.OR, 1, 1), 4);
        due("3: second drop", x.drop(0), 1);
        due("3: a cell of both stays", x.covers(0, 5, 5), true);
        due("3: a cell of one goes", x.covers(0, 4, 4), false);
        due("3: add after drop", rect(x, 0, 9, 9, 10, 10), 2);
        due("3: third drop", x.drop(0), 1);
        due("3: the newest stays", x.covers(0, 9, 9), true);
        due("3: last drop", x.drop(0), 0);
        due("3: nothing left", x.area(DrcScan.OR, 0, 0), 0);
        due("3: none to drop", x.drop(0), DrcScan.BAD);
        due("3: add after none", rect(x, 0, 9, 9, 10, 10), 1);
        DrcScan full = new DrcScan();
        for (int n = 0; n < 10; n++) {
            rect(full, 2, n, n, n + 1, n + 1);
        }
        for (int n = 0; n < 10; n++) {
            due("3: oldest there", full.covers(2, n, n), true);
            due("3: drop from full", full.drop(2), 9 - n);
            due("3: oldest gone", full.covers(2, n, n), false);
            due("3: the rest stays", full.area(DrcScan.OR, 2, 2), 9 - n);
        }
    }

    private static void dropRefuses() {
        DrcScan x = with(0, 0, 0, 1, 1, 1, 0, 0, 1, 1, 2, 0, 0, 1, 1);
        int[] badLayers = {-1, 3, LOW, HIGH};
        for (int bad : badLayers) {
            due("3: layer " + bad, x.drop(bad), DrcScan.BAD);
        }
        for (int layer = 0; layer < 3; layer++) {
            due("3: still there", x.area(DrcScan.OR, layer, layer), 1);
        }
    }

    private static void coversCells() {
        DrcScan x = with(1, 2, 5, 4, 9, 1, 15, 15, 16, 16, 1, 0, 0, 1, 1);
        for (int i = 0; i < 16; i++) {
            for (int j = 0; j < 16; j++) {
                boolean in = i >= 2 && i < 4 && j >= 5 && j < 9 || i == 15 && j == 15 || i == 0 && j == 0;
                due("4: covers " + i + " " + j, x.covers(1, i, j), in);
            }
        }
        due("4: layer 0", x.covers(0, 2, 5), false);
        due("4: layer 2", x.covers(2, 2, 5), false);
    }

    private static void coversOutOfRange() {
        DrcScan x = with(0, 0, 0, 16, 16, 1, 0, 0, 16, 16, 2, 0, 0, 16, 16);
        int[] outside = {-1, 16, 17, 256, LOW, HIGH};
        for (int out : outside) {
            due("4: i " + out, x.covers(0, out, 3), false);
            due("4: j " + out, x.covers(0, 3, out), false);
            due("4: both " + out, x.covers(2, out, out), false);
        }
        int[] badLayers = {-1, 3, LOW, HIGH};
        for (int bad : badLayers) {
            due("4: layer " + bad, x.covers(bad, 3, 3), false);
        }
    }

    private static void areaCombines() {
        DrcScan x = with(0, 0, 0, 4, 4, 0, 2, 2, 6, 6, 1, 3, 0, 8, 3);
        due("5: overlap counts once", x.area(DrcScan.OR, 0, 0), 28);
        due("5: AND with itself", x.area(DrcScan.AND, 0, 0), 28);
        due("5: LESS itself", x.area(DrcScan.LESS, 0, 0), 0);
        due("5: AND", x.area(DrcScan.AND, 0, 1), 5);
        due("5: AND turned", x.area(DrcScan.AND, 1, 0), 5);
        due("5: OR", x.area(DrcScan.OR, 0, 1), 38);
        due("5: OR turned", x.area(DrcScan.OR, 1, 0), 38);
        due("5: LESS", x.area(DrcScan.LESS, 0, 1), 23);
        due("5: LESS turned", x.area(DrcScan.LESS, 1, 0), 10);
        due("5: AND with none", x.area(DrcScan.AND, 0, 2), 0);
        due("5: OR with none", x.area(DrcScan.OR, 2, 0), 28);
        due("5: LESS none", x.area(DrcScan.LESS, 0, 2), 28);
        due("5: none LESS", x.area(DrcScan.LESS, 2, 0), 0);
        due("5: the whole plane", with(2, 0, 0, 16, 16).area(DrcScan.OR, 0, 2), 256);
    }

    private static void outlineCountsEdges() {
        due("6: one cell", with(0, 7, 7, 8, 8).outline(DrcScan.OR, 0, 0), 4);
        due("6: the whole plane", with(0, 0, 0, 16, 16).outline(DrcScan.OR, 0, 1), 64);
        due("6: cells side by side", with(0, 3, 3, 4, 4, 0, 4, 3, 5, 4).outline(DrcScan.OR, 0, 0), 6);
        due("6: cells over each other", with(0, 3, 3, 4, 4, 0, 3, 4, 4, 5).outline(DrcScan.OR, 0, 0), 6);
        due("6: cells at a point", with(0, 3, 3, 4, 4, 0, 4, 4, 5, 5).outline(DrcScan.OR, 0, 0), 8);
        due("6: far ends of rows do not touch", with(0, 15, 3, 16, 4, 0, 0, 4, 1, 5).outline(DrcScan.OR, 0, 0), 8);
        DrcScan ring = with(0, 2, 3, 9, 8, 1, 4, 4, 6, 7);
        due("6: a hole", ring.outline(DrcScan.LESS, 0, 1), 34);
        due("6: AND", ring.outline(DrcScan.AND, 0, 1), 10);
        due("6: OR", ring.outline(DrcScan.OR, 0, 1), 24);
        due("6: LESS to nothing", ring.outline(DrcScan.LESS, 1, 0), 0);
    }

    private static void cornersArePlain() {
        due("7: a rectangle", with(0, 2, 3, 9, 8).corners(DrcScan.OR, 0, 0), 4);
        due("7: the whole plane", with(0, 0, 0, 16, 16).corners(DrcScan.OR, 0, 0), 4);
        due("7: an L", with(0, 0, 0, 5, 2, 0, 0, 0, 2, 5).corners(DrcScan.OR, 0, 0), 6);
        due("7: joined rectangles", with(0, 1, 1, 4, 4, 0, 4, 1, 9, 4).corners(DrcScan.OR, 0, 0), 4);
        due("7: met at a point, rising", with(0, 3, 3, 4, 4, 0, 4, 4, 5, 5).corners(DrcScan.OR, 0, 0), 6);
        due("7: met at a point, falling", with(0, 3, 4, 4, 5, 0, 4, 3, 5, 4).corners(DrcScan.OR, 0, 0), 6);
        due("7: four far corners", with(0, 0, 0, 1, 1, 0, 15, 0, 16, 1, 0, 0, 15, 1, 16, 0, 15, 15, 16, 16)
            .corners(DrcScan.OR, 0, 0), 16);
        DrcScan ring = with(0, 2, 3, 9, 8, 1, 4, 4, 6, 7);
        due("7: a hole", ring.corners(DrcScan.LESS, 0, 1), 8);
        due("7: AND", ring.corners(DrcScan.AND, 0, 1), 4);
        due("7: OR", ring.corners(DrcScan.OR, 0, 1), 4);
        due("7: LESS to nothing", ring.corners(DrcScan.LESS, 1, 0), 0);
        due("7: holes met at a point", with(0, 0, 0, 9, 9, 1, 3, 3, 4, 4, 1, 4, 4, 5, 5)
            .corners(DrcScan.LESS, 0, 1), 10);
    }

    private static void combinationRefuses() {
        DrcScan x = with(0, 0, 0, 4, 4, 1, 0, 0, 4, 4, 2, 0, 0, 4, 4);
        int[] outside = {-1, 3, LOW, HIGH};
        for (int bad : outside) {
            int[][] calls = {{bad, 0, 0}, {DrcScan.OR, bad, 0}, {DrcScan.OR, 0, bad}, {DrcScan.AND, bad, 2},
                {DrcScan.LESS, 2, bad}, {bad, bad, bad}};
            for (int[] c : calls) {
                String shown = c[0] + " " + c[1] + " " + c[2];
                due("5: area " + shown, x.area(c[0], c[1], c[2]), DrcScan.BAD);
                due("6: outline " + shown, x.outline(c[0], c[1], c[2]), DrcScan.BAD);
                due("7: corners " + shown, x.corners(c[0], c[1], c[2]), DrcScan.BAD);
            }
        }
    }

    private static void thinCells() {
        DrcScan bar = with(0, 3, 5, 7, 7);
        due("8: width 1 is never thin", bar.thin(0, 1), 0);
        due("8: as wide as w", bar.thin(0, 2), 0);
        due("8: less than w", bar.thin(0, 3), 8);
        due("8: w 8", bar.thin(0, 8), 8);
        DrcScan standing = with(1, 5, 3, 7, 7);
        due("8: standing, as wide as w", standing.thin(1, 2), 0);
        due("8: standing, less than w", standing.thin(1, 3), 8);
        DrcScan cross = with(2, 4, 0, 6, 16, 2, 0, 4, 16, 6);
        due("8: the middle of a cross is not thin", cross.thin(2, 3), 56);
        DrcScan pieces = with(0, 0, 0, 3, 4, 0, 3, 0, 5, 4);
        due("8: runs go over rectangles", pieces.thin(0, 4), 0);
        due("8: runs over rectangles end", pieces.thin(0, 5), 20);
        DrcScan side = with(0, 0, 0, 2, 16);
        due("8: a run ends at the plane's side", side.thin(0, 3), 32);
        due("8: the far side too", with(0, 0, 13, 16, 16).thin(0, 4), 48);
        due("8: the whole plane", with(0, 0, 0, 16, 16).thin(0, 8), 0);
        due("8: eight wide", with(0, 0, 0, 8, 8).thin(0, 8), 0);
        due("8: seven wide", with(0, 0, 0, 7, 8).thin(0, 8), 56);
        DrcScan broken = with(1, 0, 0, 3, 3, 1, 4, 0, 5, 3);
        due("8: the run that has the cell alone counts", broken.thin(1, 3), 3);
    }

    private static void thinRefuses() {
        DrcScan x = with(0, 0, 0, 1, 1, 1, 0, 0, 1, 1, 2, 0, 0, 1, 1);
        int[] badLayers = {-1, 3, LOW, HIGH};
        int[] badWidths = {-1, 0, 9, LOW, HIGH};
        for (int bad : badLayers) {
            due("8: layer " + bad, x.thin(bad, 2), DrcScan.BAD);
        }
        for (int bad : badWidths) {
            due("8: width " + bad, x.thin(0, bad), DrcScan.BAD);
        }
        due("8: both wrong", x.thin(3, 0), DrcScan.BAD);
    }

    private static void gapCells() {
        DrcScan slot = with(0, 0, 0, 4, 3, 0, 6, 1, 9, 5);
        due("9: space 1 is never a gap", slot.gaps(0, 1), 0);
        due("9: as wide as s", slot.gaps(0, 2), 0);
        due("9: less than s", slot.gaps(0, 3), 4);
        due("9: s 8", slot.gaps(0, 8), 4);
        DrcScan standing = with(1, 0, 0, 3, 4, 1, 1, 6, 5, 9);
        due("9: standing, as wide as s", standing.gaps(1, 2), 0);
        due("9: standing, less than s", standing.gaps(1, 3), 4);
        DrcScan frame = with(2, 4, 4, 10, 5, 2, 4, 9, 10, 10, 2, 4, 4, 5, 10, 2, 9, 4, 10, 10);
        due("9: a hole counts each cell once", frame.gaps(2, 5), 16);
        due("9: a hole as wide as s", frame.gaps(2, 4), 0);
        due("9: open at the left side", with(0, 1, 3, 2, 4).gaps(0, 8), 0);
        due("9: open at the far sides", with(0, 14, 14, 15, 15).gaps(0, 8), 0);
        due("9: seven apart", with(0, 0, 0, 1, 1, 0, 8, 0, 9, 1).gaps(0, 8), 7);
        due("9: eight apart", with(0, 0, 0, 1, 1, 0, 9, 0, 10, 1).gaps(0, 8), 0);
        due("9: at a point there is none", with(0, 3, 3, 4, 4, 0, 4, 4, 5, 5).gaps(0, 8), 0);
        due("9: the whole plane", with(0, 0, 0, 16, 16).gaps(0, 8), 0);
        DrcScan nearest = with(1, 0, 2, 1, 3, 1, 3, 2, 4, 3, 1, 9, 2, 10, 3);
        due("9: the nearest two bound the run", nearest.gaps(1, 3), 2);
        due("9: and the next two", nearest.gaps(1, 6), 7);
        DrcScan flat = with(2, 2, 2, 12, 3, 2, 2, 5, 12, 6, 2, 2, 2, 3, 6, 2, 11, 2, 12, 6);
        due("9: short one way, long the other", flat.gaps(2, 3), 16);
        DrcScan mixed = with(0, 0, 5, 1, 6, 0, 10, 5, 11, 6, 0, 5, 4, 6, 5);
        due("9: long row, open column", mixed.gaps(0, 8), 0);
    }

    private static void gapsRefuse() {
        DrcScan x = with(0, 0, 0, 1, 1, 0, 2, 0, 3, 1);
        int[] badLayers = {-1, 3, LOW, HIGH};
        int[] badSpaces = {-1, 0, 9, LOW, HIGH};
        for (int bad : badLayers) {
            due("9: layer " + bad, x.gaps(bad, 2), DrcScan.BAD);
        }
        for (int bad : badSpaces) {
            due("9: space " + bad, x.gaps(0, bad), DrcScan.BAD);
        }
        due("9: both wrong", x.gaps(-1, 9), DrcScan.BAD);
    }

    private static void enclosureMargins() {
        due("10: a cell outside", with(0, 2, 2, 9, 9, 1, 8, 8, 10, 9).enclosure(0, 1), -1);
        due("10: the same shape", with(0, 2, 2, 9, 9, 1, 2, 2, 9, 9).enclosure(0, 1), 0);
        due("10: a layer and itself", with(0, 2, 2, 9, 9).enclosure(0, 0), 0);
        due("10: margin 2", with(0, 2, 2, 9, 9, 1, 4, 4, 7, 7).enclosure(0, 1), 2);
        due("10: the least side, left", with(0, 2, 2, 12, 12, 1, 3, 6, 7, 7).enclosure(0, 1), 1);
        due("10: the least side, bottom", with(0, 2, 2, 12, 12, 1, 6, 3, 7, 7).enclosure(0, 1), 1);
        due("10: the least side, right", with(0, 2, 2, 12, 12, 1, 6, 6, 11, 7).enclosure(0, 1), 1);
        due("10: the least side, top", with(0, 2, 2, 12, 12, 1, 6, 6, 7, 11).enclosure(0, 1), 1);
        due("10: aslant counts", with(0, 0, 0, 16, 10, 0, 0, 0, 10, 16, 1, 7, 7, 8, 8).enclosure(0, 1), 2);
        due("10: the worst cell of b", with(0, 0, 0, 12, 16, 1, 0, 0, 1, 1, 1, 9, 3, 10, 4).enclosure(0, 1), 2);
        due("10: b empty", with(0, 2, 2, 3, 3).enclosure(0, 1), 8);
        due("10: a empty", with(1, 2, 2, 3, 3).enclosure(0, 1), -1);
        due("10: both empty", new DrcScan().enclosure(2, 1), 8);
        due("10: the order of the layers", with(1, 2, 2, 9, 9, 2, 4, 4, 7, 7).enclosure(2, 1), -1);
        due("10: the order turned", with(1, 2, 2, 9, 9, 2, 4, 4, 7, 7).enclosure(1, 2), 2);
    }

    private static void enclosureAtThePlanesSides() {
        due("10: outside the plane does not count", with(0, 0, 0, 5, 5, 1, 0, 0, 1, 1).enclosure(0, 1), 4);
        due("10: the far corner", with(0, 9, 9, 16, 16, 1, 15, 15, 16, 16).enclosure(0, 1), 6);
        due("10: the whole plane", with(0, 0, 0, 16, 16, 1, 0, 0, 16, 16).enclosure(0, 1), 8);
        due("10: just 7", with(0, 0, 0, 8, 16, 1, 0, 3, 1, 4).enclosure(0, 1), 7);
        due("10: just 8", with(0, 0, 0, 9, 16, 1, 0, 3, 1, 4).enclosure(0, 1), 8);
        due("10: never above 8", with(0, 0, 0, 10, 16, 1, 0, 3, 1, 4).enclosure(0, 1), 8);
    }

    private static void enclosureRefuses() {
        DrcScan x = with(0, 0, 0, 16, 16);
        int[] badLayers = {-1, 3, LOW, HIGH};
        for (int bad : badLayers) {
            due("10: a " + bad, x.enclosure(bad, 0), DrcScan.BAD);
            due("10: b " + bad, x.enclosure(0, bad), DrcScan.BAD);
            due("10: both " + bad, x.enclosure(bad, bad), DrcScan.BAD);
        }
    }

    private static void questionsChangeNothing() {
        DrcScan x = with(0, 1, 1, 6, 6, 1, 3, 3, 12, 5);
        for (int round = 0; round < 3; round++) {
            due("area again", x.area(DrcScan.LESS, 0, 1), 19);
            due("thin again", x.thin(1, 3), 18);
            due("outline again", x.outline(DrcScan.AND, 0, 1), 10);
            due("gaps again", x.gaps(0, 8), 0);
            due("corners again", x.corners(DrcScan.OR, 0, 1), 8);
            due("enclosure again", x.enclosure(0, 1), -1);
            due("empty area between", x.area(DrcScan.AND, 0, 2), 0);
        }
        due("count unchanged", rect(x, 0, 0, 0, 1, 1), 2);
    }

    private static void objectsAreApart() {
        DrcScan one = with(0, 0, 0, 4, 4);
        DrcScan other = new DrcScan();
        due("another object is empty", other.area(DrcScan.OR, 0, 0), 0);
        due("its first rectangle", rect(other, 0, 8, 8, 9, 9), 1);
        due("the first is unchanged", one.area(DrcScan.OR, 0, 0), 16);
    }
}
