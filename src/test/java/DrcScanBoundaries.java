/**
 * One test for each sentence of the document that names a boundary case. Each test bears the words it holds the
 * class to, and they are printed if it fails.
 */
public final class DrcScanBoundaries {
    private static final int AND = DrcScan.AND;
    private static final int OR = DrcScan.OR;
    private static final int LESS = DrcScan.LESS;
    private static final int BAD = DrcScan.BAD;
    private static final int FULL = DrcScan.FULL;
    private static final int LOW = Integer.MIN_VALUE;
    private static final int HIGH = Integer.MAX_VALUE;
    private static final int[] NOT_0_TO_2 = {-1, 3, 4, -3, 256, 65536, LOW, HIGH};
    private static final int[] NOT_1_TO_8 = {0, 9, -1, 10, 257, 65537, LOW, HIGH};
    private static final int[] NOT_0_TO_15 = {-1, 16, 17, -16, 32, 256, 65536, LOW, HIGH};

    private static int tests = 0;
    private static int broken = 0;
    private static int wrong = 0;

    public static void main(String[] args) {
        whatItIs();
        termsOfShapes();
        termsOfRules();
        newObjectAndAdd();
        dropAndCovers();
        combinations();
        widthsAndSpaces();
        enclosures();
        System.out.println(broken == 0 ? tests + " boundary sentences hold" : broken + " of " + tests + " are broken");
        if (broken != 0) {
            System.exit(1);
        }
    }

    private static void whatItIs() {
        test("W1", "at most 512 calls: the 512th is answered", DrcScanBoundaries::the512thCall);
        test("W2", "at most 512 calls: 511 refused ones before", DrcScanBoundaries::the512thAfterRefusedOnes);
        test("W3", "at most 512 calls: 511 questions before", DrcScanBoundaries::the512thAfterQuestions);
        test("W4", "at most 512 calls: a full list turned over 250 times", DrcScanBoundaries::listTurnedOver);
    }

    private static void termsOfShapes() {
        test("T1", "a CELL (i, j), for i and j from 0 to 15", DrcScanBoundaries::cellsFrom0To15);
        test("T2", "There are 3 LAYERS, 0 to 2", DrcScanBoundaries::threeLayers);
        test("T3", "each with a list of up to 10 RECTANGLES", DrcScanBoundaries::tenRectanglesInEachLayer);
        test("T4", "a left and a right from 0 to 16", DrcScanBoundaries::leftAndRightFrom0To16);
        test("T5", "a bottom and a top from 0 to 16", DrcScanBoundaries::bottomAndTopFrom0To16);
        test("T6", "left < right", DrcScanBoundaries::leftBelowRight);
        test("T7", "bottom < top", DrcScanBoundaries::bottomBelowTop);
        test("T8", "left <= i < right", DrcScanBoundaries::columnsOfARectangle);
        test("T9", "bottom <= j < top", DrcScanBoundaries::rowsOfARectangle);
        test("T10", "all cells that one of its rectangles has", DrcScanBoundaries::shapeIsAUnion);
        test("T11", "AND the cells in both shapes", DrcScanBoundaries::andOfShapes);
        test("T12", "OR those in one or both", DrcScanBoundaries::orOfShapes);
        test("T13", "LESS those in the first and not in the second", DrcScanBoundaries::lessOfShapes);
    }

    private static void termsOfRules() {
        test("T14", "a cell in the set whose neighbour across that side is not in the set", DrcScanBoundaries::sidesThatAreEdges);
        test("T15", "cells outside 0 to 15 are in no set: edges", DrcScanBoundaries::edgesOnThePlanesSides);
        test("T16", "cells outside 0 to 15 are in no set: no wrap-around", DrcScanBoundaries::planeDoesNotWrapAround);
        test("T17", "THIN: in its row fewer than w cells", DrcScanBoundaries::rowsFewerThanW);
        test("T18", "THIN: in its column fewer than w cells", DrcScanBoundaries::columnsFewerThanW);
        test("T19", "THIN: the largest run that has the cell", DrcScanBoundaries::largestRunThatHasTheCell);
        test("T20", "THIN: the row or the column", DrcScanBoundaries::thinInRowOrColumn);
        test("T21", "THIN: a run ends where the plane ends", DrcScanBoundaries::thinAtThePlanesSides);
        test("T22", "GAP: a cell that is not in a set", DrcScanBoundaries::cellsOfTheSetAreNoGaps);
        test("T23", "GAP: to its left and to its right", DrcScanBoundaries::leftAndRight);
        test("T24", "GAP: below and above it", DrcScanBoundaries::belowAndAbove);
        test("T25", "GAP: in the row fewer than s cells", DrcScanBoundaries::rowsFewerThanS);
        test("T26", "GAP: in the column fewer than s cells", DrcScanBoundaries::columnsFewerThanS);
        test("T27", "GAP: between the nearest two of these", DrcScanBoundaries::betweenTheNearestTwo);
        test("T28", "GAP: in that row or that column", DrcScanBoundaries::inThatRowOrThatColumn);
        test("T29", "GAP: outside the plane there are no cells of the set", DrcScanBoundaries::gapsAtThePlanesSides);
    }

    private static void newObjectAndAdd() {
        test("1", "No rectangles", DrcScanBoundaries::noRectangles);
        test("2a", "layer outside 0..2: BAD", DrcScanBoundaries::addLayerOutside);
        test("2b", "the parts of x must not be negative", DrcScanBoundaries::addNegativeX);
        test("2c", "the parts of y must not be negative", DrcScanBoundaries::addNegativeY);
        test("2d", "left, right, bottom, top not as it must be: too large", DrcScanBoundaries::addTooLarge);
        test("2e", "tested in this order: BAD before FULL", DrcScanBoundaries::addBadBeforeFull);
        test("2f", "the layer has 10 rectangles: FULL", DrcScanBoundaries::addFull);
        test("2g", "answers the layer's number of rectangles", DrcScanBoundaries::addAnswersTheNumber);
        test("2h", "a call that is BAD adds nothing", DrcScanBoundaries::addBadAddsNothing);
        test("2i", "a call that is FULL adds nothing", DrcScanBoundaries::addFullAddsNothing);
    }

    private static void dropAndCovers() {
        test("3a", "takes the oldest rectangle of a layer away", DrcScanBoundaries::dropTakesTheOldest);
        test("3b", "answers the number left", DrcScanBoundaries::dropAnswersTheNumberLeft);
        test("3c", "BAD for layer outside 0..2", DrcScanBoundaries::dropLayerOutside);
        test("3d", "BAD if there is none", DrcScanBoundaries::dropIfThereIsNone);
        test("3e", "a drop that is BAD changes nothing", DrcScanBoundaries::dropBadChangesNothing);
        test("4a", "whether a cell is in a layer's shape", DrcScanBoundaries::coversAtTheEdges);
        test("4b", "false for numbers out of range: the layer", DrcScanBoundaries::coversLayerOutside);
        test("4c", "false for numbers out of range: i", DrcScanBoundaries::coversColumnOutside);
        test("4d", "false for numbers out of range: j", DrcScanBoundaries::coversRowOutside);
    }

    private static void combinations() {
        test("5a", "the number of cells: none, one, all", DrcScanBoundaries::areaNoneOneAll);
        test("5b", "BAD for how outside 0..2", DrcScanBoundaries::areaHowOutside);
        test("5c", "BAD for a outside 0..2", DrcScanBoundaries::areaFirstOutside);
        test("5d", "BAD for b outside 0..2", DrcScanBoundaries::areaSecondOutside);
        test("6a", "the number of edges: none, one cell, all, the most", DrcScanBoundaries::outlineNoneToMost);
        test("6b", "BAD as for area: how", DrcScanBoundaries::outlineHowOutside);
        test("6c", "BAD as for area: a", DrcScanBoundaries::outlineFirstOutside);
        test("6d", "BAD as for area: b", DrcScanBoundaries::outlineSecondOutside);
        test("7a", "the number of points: none, one cell, all, the most", DrcScanBoundaries::cornersNoneToMost);
        test("7b", "just one edge that is vertical, just one horizontal", DrcScanBoundaries::cornersJustOneEach);
        test("7c", "points on the sides of the plane", DrcScanBoundaries::cornersOnThePlanesSides);
        test("7d", "BAD as for area: how", DrcScanBoundaries::cornersHowOutside);
        test("7e", "BAD as for area: a", DrcScanBoundaries::cornersFirstOutside);
        test("7f", "BAD as for area: b", DrcScanBoundaries::cornersSecondOutside);
    }

    private static void widthsAndSpaces() {
        test("8a", "the number of thin cells: none, one, all", DrcScanBoundaries::thinNoneOneAll);
        test("8b", "BAD for layer outside 0..2", DrcScanBoundaries::thinLayerOutside);
        test("8c", "BAD for w outside 1..8", DrcScanBoundaries::thinWidthOutside);
        test("9a", "the number of gaps: none, one, the most", DrcScanBoundaries::gapsNoneOneMost);
        test("9b", "BAD for layer outside 0..2", DrcScanBoundaries::gapsLayerOutside);
        test("9c", "BAD for s outside 1..8", DrcScanBoundaries::gapsSpaceOutside);
    }

    private static void enclosures() {
        test("10a", "the greatest m from 0 to 8", DrcScanBoundaries::enclosureFrom0To8);
        test("10b", "never more than 8", DrcScanBoundaries::enclosureNeverAbove8);
        test("10c", "every cell of layer b's shape", DrcScanBoundaries::enclosureOfEveryCell);
        test("10d", "every cell (from 0 to 15)", DrcScanBoundaries::enclosureInsideThePlane);
        test("10e", "at most m columns and at most m rows away", DrcScanBoundaries::enclosureColumnsAndRows);
        test("10f", "-1 if that is not so even for m = 0", DrcScanBoundaries::enclosureNotEven0);
        test("10g", "it is 8 if b has no cells", DrcScanBoundaries::enclosureOfNoCells);
        test("10h", "BAD for a outside 0..2", DrcScanBoundaries::enclosureFirstOutside);
        test("10i", "BAD for b outside 0..2", DrcScanBoundaries::enclosureSecondOutside);
    }

    // ---- how a test is run

    private static void test(String id, String words, Runnable body) {
        tests++;
        int before = wrong;
        try {
            body.run();
        } catch (RuntimeException thrown) {
            wrong++;
            System.out.println("a call threw " + thrown);
        }
        if (wrong != before) {
            broken++;
            System.out.println("broken [" + id + "]: " + words);
        }
    }

    private static void due(String what, int got, int want) {
        if (got != want) {
            wrong++;
            System.out.println(what + " answered " + got + ", due is " + want);
        }
    }

    private static void due(String what, boolean got, boolean want) {
        due(what, got ? 1 : 0, want ? 1 : 0);
    }

    private static int span(int from, int to) {
        return 32 * from + to;
    }

    /** A new object with rectangles, each told as layer, left, bottom, right, top. */
    private static DrcScan with(int... numbers) {
        DrcScan x = new DrcScan();
        for (int n = 0; n < numbers.length; n += 5) {
            put(x, numbers[n], numbers[n + 1], numbers[n + 2], numbers[n + 3], numbers[n + 4]);
        }
        return x;
    }

    private static int put(DrcScan x, int layer, int left, int bottom, int right, int top) {
        return x.add(layer, span(left, right), span(bottom, top));
    }

    private static int cells(DrcScan x, int layer) {
        return x.area(OR, layer, layer);
    }

    private static DrcScan whole() {
        return with(0, 0, 0, 16, 16, 1, 0, 0, 16, 16, 2, 0, 0, 16, 16);
    }

    /** 64 cells of which no two touch, as layer 0 LESS layer 1. */
    private static DrcScan dots() {
        DrcScan x = new DrcScan();
        for (int n = 0; n < 16; n += 2) {
            put(x, 0, n, 0, n + 1, 16);
            put(x, 1, 0, n + 1, 16, n + 2);
        }
        return x;
    }

    // ---- at most 512 calls

    /** An object after 511 calls: layers 0 and 1 have known shapes, layer 2 is empty after many adds and drops. */
    private static DrcScan after511() {
        DrcScan x = with(0, 2, 2, 9, 9, 0, 11, 2, 12, 9, 1, 4, 4, 7, 7);
        for (int n = 3; n < 511; n += 2) {
            due("add, call " + (n + 1), put(x, 2, 0, 0, 16, 16), 1);
            due("drop, call " + (n + 2), x.drop(2), 0);
        }
        return x;
    }

    private static void the512thCall() {
        due("add", put(after511(), 2, 0, 0, 1, 1), 1);
        due("add BAD", after511().add(2, 0, 1), BAD);
        due("drop", after511().drop(0), 1);
        due("drop BAD", after511().drop(2), BAD);
        due("covers", after511().covers(0, 11, 8), true);
        due("covers not", after511().covers(2, 0, 0), false);
        due("area", after511().area(LESS, 0, 1), 47);
        due("outline", after511().outline(LESS, 0, 1), 56);
        due("corners", after511().corners(LESS, 0, 1), 12);
        due("thin", after511().thin(1, 4), 9);
        due("gaps", after511().gaps(0, 3), 14);
        due("enclosure", after511().enclosure(0, 1), 2);
    }

    private static void the512thAfterRefusedOnes() {
        DrcScan x = new DrcScan();
        for (int n = 0; n < 511; n++) {
            due("refused call " + (n + 1), n % 2 == 0 ? x.add(0, 0, 0) : x.drop(0), BAD);
        }
        due("add after 511 refused calls", put(x, 0, 0, 0, 1, 1), 1);
        DrcScan full = new DrcScan();
        for (int n = 0; n < 10; n++) {
            put(full, 1, n, n, n + 1, n + 1);
        }
        for (int n = 10; n < 511; n++) {
            due("refused call " + (n + 1), put(full, 1, 0, 0, 16, 16), FULL);
        }
        due("area after 501 refused calls", cells(full, 1), 10);
    }

    private static void the512thAfterQuestions() {
        DrcScan x = with(0, 2, 2, 9, 9, 1, 4, 4, 7, 7);
        for (int n = 2; n < 511; n++) {
            due("area, call " + (n + 1), x.area(n % 3, 0, 1), n % 3 == AND ? 9 : n % 3 == OR ? 49 : 40);
        }
        due("drop after 509 questions", x.drop(0), 0);
    }

    private static void listTurnedOver() {
        DrcScan x = new DrcScan();
        for (int n = 0; n < 10; n++) {
            put(x, 2, n, 0, n + 1, 1);
        }
        for (int n = 10; n < 260; n++) {
            due("drop, turn " + n, x.drop(2), 9);
            due("add, turn " + n, put(x, 2, n % 16, n / 16 % 16, n % 16 + 1, n / 16 % 16 + 1), 10);
        }
        // The last ten are those of n from 250 to 259: six in row 15, four in row 0.
        due("cells of the last ten", cells(x, 2), 10);
        due("the oldest of them", x.covers(2, 10, 15), true);
    }

    // ---- the terms: cells, layers, rectangles, shapes, combinations

    private static void cellsFrom0To15() {
        DrcScan x = whole();
        for (int i = 0; i < 16; i++) {
            for (int j = 0; j < 16; j++) {
                due("cell " + i + " " + j, x.covers(0, i, j), true);
            }
        }
        due("all cells", cells(x, 0), 256);
        int[] ends = {0, 15};
        for (int i : ends) {
            for (int j : ends) {
                DrcScan one = with(0, i, j, i + 1, j + 1);
                due("the corner cell " + i + " " + j, one.covers(0, i, j), true);
                due("it alone", cells(one, 0), 1);
            }
        }
    }

    private static void threeLayers() {
        DrcScan x = with(0, 0, 0, 1, 1, 1, 0, 0, 2, 1, 2, 0, 0, 3, 1);
        for (int layer = 0; layer < 3; layer++) {
            due("cells of layer " + layer, cells(x, layer), layer + 1);
            due("AND with layer 2", x.area(AND, layer, 2), layer + 1);
            due("outline of layer " + layer, x.outline(OR, layer, layer), 2 * layer + 4);
            due("corners of layer " + layer, x.corners(OR, layer, layer), 4);
            due("thin of layer " + layer, x.thin(layer, 2), layer + 1);
            due("gaps of layer " + layer, x.gaps(layer, 8), 0);
            due("enclosure of layer " + layer, x.enclosure(layer, layer), 0);
            due("the end of layer " + layer, x.covers(layer, layer, 0), true);
            due("after the end of layer " + layer, x.covers(layer, layer + 1, 0), false);
        }
        for (int layer = 0; layer < 3; layer++) {
            due("drop from layer " + layer, x.drop(layer), 0);
        }
        int[] beside = {-1, 3};
        for (int layer : beside) {
            due("add to layer " + layer, x.add(layer, 1, 1), BAD);
            due("drop from layer " + layer, x.drop(layer), BAD);
            due("covers of layer " + layer, x.covers(layer, 0, 0), false);
            due("area of layer " + layer, cells(x, layer), BAD);
            due("thin of layer " + layer, x.thin(layer, 1), BAD);
            due("gaps of layer " + layer, x.gaps(layer, 1), BAD);
            due("enclosure of layer " + layer, x.enclosure(layer, layer), BAD);
        }
    }

    private static void tenRectanglesInEachLayer() {
        DrcScan x = new DrcScan();
        for (int n = 0; n < 10; n++) {
            for (int layer = 0; layer < 3; layer++) {
                due("add " + n + " to layer " + layer, put(x, layer, n, 5 * layer, n + 1, 5 * layer + 1), n + 1);
            }
        }
        for (int layer = 0; layer < 3; layer++) {
            due("one more in layer " + layer, put(x, layer, 0, 0, 16, 16), FULL);
            due("cells of layer " + layer, cells(x, layer), 10);
            for (int n = 0; n < 10; n++) {
                due("rectangle " + n + " of layer " + layer, x.covers(layer, n, 5 * layer), true);
            }
        }
    }

    private static boolean[] goodSpans() {
        boolean[] good = new boolean[4096];
        for (int from = 0; from <= 16; from++) {
            for (int to = from + 1; to <= 16; to++) {
                good[span(from, to)] = true;
            }
        }
        return good;
    }

    private static void leftAndRightFrom0To16() {
        boolean[] good = goodSpans();
        for (int x = 0; x < good.length; x++) {
            due("x " + x, new DrcScan().add(0, x, 16), good[x] ? 1 : BAD);
        }
        due("left 0 and right 1", new DrcScan().add(0, 1, 1), 1);
        due("left 0 and right 16", new DrcScan().add(0, 16, 1), 1);
        due("left 15 and right 16", new DrcScan().add(0, span(15, 16), 1), 1);
        due("left 0 and right 17", new DrcScan().add(0, 17, 1), BAD);
        due("left 15 and right 17", new DrcScan().add(0, span(15, 17), 1), BAD);
        due("left 16 and right 17", new DrcScan().add(0, span(16, 17), 1), BAD);
    }

    private static void bottomAndTopFrom0To16() {
        boolean[] good = goodSpans();
        for (int y = 0; y < good.length; y++) {
            due("y " + y, new DrcScan().add(0, 16, y), good[y] ? 1 : BAD);
        }
        due("bottom 0 and top 1", new DrcScan().add(0, 1, 1), 1);
        due("bottom 0 and top 16", new DrcScan().add(0, 1, 16), 1);
        due("bottom 15 and top 16", new DrcScan().add(0, 1, span(15, 16)), 1);
        due("bottom 0 and top 17", new DrcScan().add(0, 1, 17), BAD);
        due("bottom 15 and top 17", new DrcScan().add(0, 1, span(15, 17)), BAD);
        due("bottom 16 and top 17", new DrcScan().add(0, 1, span(16, 17)), BAD);
    }

    private static void leftBelowRight() {
        for (int n = 0; n <= 16; n++) {
            due("left and right " + n, new DrcScan().add(1, span(n, n), 16), BAD);
        }
        for (int n = 0; n < 16; n++) {
            due("left just below right " + n, new DrcScan().add(1, span(n, n + 1), 16), 1);
            due("left just above right " + n, new DrcScan().add(1, span(n + 1, n), 16), BAD);
        }
        due("left 16 and right 0", new DrcScan().add(1, span(16, 0), 16), BAD);
    }

    private static void bottomBelowTop() {
        for (int n = 0; n <= 16; n++) {
            due("bottom and top " + n, new DrcScan().add(1, 16, span(n, n)), BAD);
        }
        for (int n = 0; n < 16; n++) {
            due("bottom just below top " + n, new DrcScan().add(1, 16, span(n, n + 1)), 1);
            due("bottom just above top " + n, new DrcScan().add(1, 16, span(n + 1, n)), BAD);
        }
        due("bottom 16 and top 0", new DrcScan().add(1, 16, span(16, 0)), BAD);
    }

    private static void columnsOfARectangle() {
        for (int left = 0; left < 16; left++) {
            for (int right = left + 1; right <= 16; right++) {
                DrcScan x = with(2, left, 7, right, 8);
                for (int i = -1; i <= 16; i++) {
                    due(left + " to " + right + ", column " + i, x.covers(2, i, 7), left <= i && i < right);
                }
            }
        }
    }

    private static void rowsOfARectangle() {
        for (int bottom = 0; bottom < 16; bottom++) {
            for (int top = bottom + 1; top <= 16; top++) {
                DrcScan x = with(2, 7, bottom, 8, top);
                for (int j = -1; j <= 16; j++) {
                    due(bottom + " to " + top + ", row " + j, x.covers(2, 7, j), bottom <= j && j < top);
                }
            }
        }
    }

    private static void shapeIsAUnion() {
        DrcScan x = new DrcScan();
        due("no rectangle", cells(x, 0), 0);
        for (int n = 0; n < 10; n++) {
            put(x, 0, 3, 3, 5, 5);
        }
        due("ten times the same", cells(x, 0), 4);
        x.drop(0);
        due("nine times the same", cells(x, 0), 4);
        put(x, 0, 4, 4, 7, 7);
        due("the tenth beyond the others", cells(x, 0), 12);
        due("a cell of the first ones alone", x.covers(0, 3, 3), true);
        due("a cell of the last alone", x.covers(0, 6, 6), true);
        due("a cell of all", x.covers(0, 4, 4), true);
        due("a cell of none", x.covers(0, 3, 6), false);
    }

    /** 1 cell in the first alone, 2 in the second alone, 4 in both. */
    private static DrcScan overlapping() {
        return with(0, 0, 0, 5, 1, 1, 1, 0, 7, 1);
    }

    private static void andOfShapes() {
        due("some in both", overlapping().area(AND, 0, 1), 4);
        due("the other way round", overlapping().area(AND, 1, 0), 4);
        due("one empty", overlapping().area(AND, 0, 2), 0);
        due("the first empty", overlapping().area(AND, 2, 0), 0);
        due("both empty", new DrcScan().area(AND, 0, 1), 0);
        due("with itself", overlapping().area(AND, 1, 1), 6);
        due("beside each other", with(0, 0, 0, 5, 1, 1, 5, 0, 7, 1).area(AND, 0, 1), 0);
    }

    private static void orOfShapes() {
        due("some in both", overlapping().area(OR, 0, 1), 7);
        due("the other way round", overlapping().area(OR, 1, 0), 7);
        due("one empty", overlapping().area(OR, 0, 2), 5);
        due("the first empty", overlapping().area(OR, 2, 0), 5);
        due("both empty", new DrcScan().area(OR, 0, 1), 0);
        due("with itself", overlapping().area(OR, 1, 1), 6);
        due("beside each other", with(0, 0, 0, 5, 1, 1, 5, 0, 7, 1).area(OR, 0, 1), 7);
    }

    private static void lessOfShapes() {
        due("some in both", overlapping().area(LESS, 0, 1), 1);
        due("the other way round", overlapping().area(LESS, 1, 0), 2);
        due("one empty", overlapping().area(LESS, 0, 2), 5);
        due("the first empty", overlapping().area(LESS, 2, 0), 0);
        due("both empty", new DrcScan().area(LESS, 0, 1), 0);
        due("with itself", overlapping().area(LESS, 1, 1), 0);
        due("beside each other", with(0, 0, 0, 5, 1, 1, 5, 0, 7, 1).area(LESS, 0, 1), 5);
    }

    // ---- the terms: edges, thin cells, gaps

    private static void sidesThatAreEdges() {
        due("a cell alone", with(0, 7, 7, 8, 8).outline(OR, 0, 0), 4);
        due("side by side", with(0, 7, 7, 8, 8, 0, 8, 7, 9, 8).outline(OR, 0, 0), 6);
        due("one on the other", with(0, 7, 7, 8, 8, 0, 7, 8, 8, 9).outline(OR, 0, 0), 6);
        due("met at a point", with(0, 7, 7, 8, 8, 0, 8, 8, 9, 9).outline(OR, 0, 0), 8);
        due("one cell between", with(0, 7, 7, 8, 8, 0, 9, 7, 10, 8).outline(OR, 0, 0), 8);
        due("a hole of one cell", with(0, 6, 6, 9, 9, 1, 7, 7, 8, 8).outline(LESS, 0, 1), 16);
        due("the same cell in two layers", with(0, 7, 7, 8, 8, 1, 7, 7, 8, 8).outline(OR, 0, 1), 4);
    }

    private static void edgesOnThePlanesSides() {
        due("all cells", whole().outline(OR, 0, 0), 64);
        due("the left column", with(0, 0, 0, 1, 16).outline(OR, 0, 0), 34);
        due("the right column", with(0, 15, 0, 16, 16).outline(OR, 0, 0), 34);
        due("the bottom row", with(0, 0, 0, 16, 1).outline(OR, 0, 0), 34);
        due("the top row", with(0, 0, 15, 16, 16).outline(OR, 0, 0), 34);
        int[] ends = {0, 15};
        for (int i : ends) {
            for (int j : ends) {
                due("the corner cell " + i + " " + j, with(0, i, j, i + 1, j + 1).outline(OR, 0, 0), 4);
            }
        }
    }

    private static void planeDoesNotWrapAround() {
        DrcScan sides = with(0, 0, 5, 1, 6, 0, 15, 5, 16, 6);
        due("both ends of a row, edges", sides.outline(OR, 0, 0), 8);
        due("both ends of a row, corners", sides.corners(OR, 0, 0), 8);
        DrcScan ends = with(0, 5, 0, 6, 1, 0, 5, 15, 6, 16);
        due("both ends of a column, edges", ends.outline(OR, 0, 0), 8);
        due("both ends of a column, corners", ends.corners(OR, 0, 0), 8);
        due("the end of a row and the start of the next", with(0, 15, 5, 16, 6, 0, 0, 6, 1, 7).outline(OR, 0, 0), 8);
        due("the end of a column and the start of the next", with(0, 5, 15, 6, 16, 0, 6, 0, 7, 1).outline(OR, 0, 0), 8);
    }

    private static void rowsFewerThanW() {
        for (int w = 1; w <= 8; w++) {
            for (int wide = 1; wide <= 9; wide++) {
                DrcScan x = with(0, 4, 3, 4 + wide, 15);
                due("rows of " + wide + " for " + w, x.thin(0, w), wide < w ? 12 * wide : 0);
            }
        }
    }

    private static void columnsFewerThanW() {
        for (int w = 1; w <= 8; w++) {
            for (int high = 1; high <= 9; high++) {
                DrcScan x = with(0, 3, 4, 15, 4 + high);
                due("columns of " + high + " for " + w, x.thin(0, w), high < w ? 12 * high : 0);
            }
        }
    }

    private static void largestRunThatHasTheCell() {
        due("rectangles that meet are one run", with(0, 2, 2, 5, 10, 0, 5, 2, 9, 10).thin(0, 7), 0);
        due("rectangles that overlap are one run", with(0, 2, 2, 7, 10, 0, 4, 2, 9, 10).thin(0, 7), 0);
        due("meeting one over the other", with(0, 2, 2, 10, 5, 0, 2, 5, 10, 9).thin(0, 7), 0);
        due("a longer run in the same row does not help", with(0, 0, 2, 5, 8, 0, 6, 2, 8, 8).thin(0, 3), 12);
        due("a longer run in the same column does not help", with(0, 2, 0, 8, 5, 0, 2, 6, 8, 8).thin(0, 3), 12);
        due("a run with a cell missing is two", with(0, 0, 2, 3, 8, 0, 4, 2, 7, 8).thin(0, 4), 36);
    }

    private static void thinInRowOrColumn() {
        due("the row alone", with(0, 3, 0, 5, 16).thin(0, 3), 32);
        due("the column alone", with(0, 0, 3, 16, 5).thin(0, 3), 32);
        due("both count once", with(0, 3, 3, 5, 5).thin(0, 3), 4);
        due("neither", with(0, 3, 3, 6, 6).thin(0, 3), 0);
        due("the middle of a cross", with(0, 7, 0, 9, 16, 0, 0, 7, 16, 9).thin(0, 3), 56);
    }

    private static void thinAtThePlanesSides() {
        due("at the left", with(0, 0, 0, 2, 16).thin(0, 3), 32);
        due("at the right", with(0, 14, 0, 16, 16).thin(0, 3), 32);
        due("at the bottom", with(0, 0, 0, 16, 2).thin(0, 3), 32);
        due("at the top", with(0, 0, 14, 16, 16).thin(0, 3), 32);
        due("both ends of the rows", with(0, 0, 0, 2, 16, 0, 14, 0, 16, 16).thin(0, 3), 64);
        due("both ends of the columns", with(0, 0, 0, 16, 2, 0, 0, 14, 16, 16).thin(0, 3), 64);
        due("just wide enough at the far corner", with(0, 13, 13, 16, 16).thin(0, 3), 0);
    }

    private static void cellsOfTheSetAreNoGaps() {
        due("three cells in a row", with(0, 3, 3, 6, 4).gaps(0, 8), 0);
        due("three cells in a column", with(0, 3, 3, 4, 6).gaps(0, 8), 0);
        due("all cells", whole().gaps(0, 8), 0);
        due("the gap alone", with(0, 3, 3, 6, 6, 0, 7, 3, 10, 6).gaps(0, 8), 3);
        due("a gap that is filled", with(0, 3, 3, 6, 6, 0, 7, 3, 10, 6, 0, 6, 3, 7, 6).gaps(0, 8), 0);
        due("a gap that is filled in part", with(0, 3, 3, 6, 6, 0, 7, 3, 10, 6, 0, 6, 3, 7, 5).gaps(0, 8), 1);
    }

    private static void leftAndRight() {
        due("both", with(0, 3, 7, 4, 8, 0, 5, 7, 6, 8).gaps(0, 2), 1);
        due("left alone", with(0, 3, 7, 4, 8).gaps(0, 8), 0);
        due("right alone", with(0, 12, 7, 13, 8).gaps(0, 8), 0);
        due("left, and right in another row", with(0, 3, 7, 4, 8, 0, 5, 8, 6, 9).gaps(0, 8), 0);
        due("left and above", with(0, 6, 7, 7, 8, 0, 7, 8, 8, 9).gaps(0, 8), 0);
        due("left and below", with(0, 6, 7, 7, 8, 0, 7, 6, 8, 7).gaps(0, 8), 0);
    }

    private static void belowAndAbove() {
        due("both", with(0, 7, 3, 8, 4, 0, 7, 5, 8, 6).gaps(0, 2), 1);
        due("below alone", with(0, 7, 3, 8, 4).gaps(0, 8), 0);
        due("above alone", with(0, 7, 12, 8, 13).gaps(0, 8), 0);
        due("below, and above in another column", with(0, 7, 3, 8, 4, 0, 8, 5, 9, 6).gaps(0, 8), 0);
        due("below and right", with(0, 7, 6, 8, 7, 0, 8, 7, 9, 8).gaps(0, 8), 0);
        due("above and right", with(0, 7, 8, 8, 9, 0, 8, 7, 9, 8).gaps(0, 8), 0);
    }

    private static void rowsFewerThanS() {
        for (int s = 1; s <= 8; s++) {
            for (int apart = 1; apart <= 9; apart++) {
                DrcScan x = with(0, 2, 3, 4, 8, 0, 4 + apart, 3, 6 + apart, 8);
                due("rows with " + apart + " for " + s, x.gaps(0, s), apart < s ? 5 * apart : 0);
            }
        }
    }

    private static void columnsFewerThanS() {
        for (int s = 1; s <= 8; s++) {
            for (int apart = 1; apart <= 9; apart++) {
                DrcScan x = with(0, 3, 2, 8, 4, 0, 3, 4 + apart, 8, 6 + apart);
                due("columns with " + apart + " for " + s, x.gaps(0, s), apart < s ? 5 * apart : 0);
            }
        }
    }

    private static void betweenTheNearestTwo() {
        DrcScan row = with(0, 0, 7, 1, 8, 0, 3, 7, 4, 8, 0, 9, 7, 10, 8);
        due("the shorter of two runs in a row", row.gaps(0, 3), 2);
        due("the longer too", row.gaps(0, 6), 7);
        due("just not the longer", row.gaps(0, 5), 2);
        DrcScan column = with(0, 7, 0, 8, 1, 0, 7, 3, 8, 4, 0, 7, 9, 8, 10);
        due("the shorter of two runs in a column", column.gaps(0, 3), 2);
        due("the longer too, in a column", column.gaps(0, 6), 7);
        due("just not the longer, in a column", column.gaps(0, 5), 2);
    }

    private static void inThatRowOrThatColumn() {
        due("a long row, a column open above", with(0, 2, 7, 3, 8, 0, 12, 7, 13, 8, 0, 7, 6, 8, 7).gaps(0, 3), 0);
        due("a long column, a row open at the right", with(0, 7, 2, 8, 3, 0, 7, 12, 8, 13, 0, 6, 7, 7, 8).gaps(0, 3), 0);
        due("a long row, a short column", with(0, 2, 7, 3, 8, 0, 12, 7, 13, 8, 0, 7, 6, 8, 7, 0, 7, 8, 8, 9).gaps(0, 3), 1);
        due("a short row, a long column", with(0, 7, 2, 8, 3, 0, 7, 12, 8, 13, 0, 6, 7, 7, 8, 0, 8, 7, 9, 8).gaps(0, 3), 1);
        due("short both ways counts once", with(0, 6, 7, 7, 8, 0, 8, 7, 9, 8, 0, 7, 6, 8, 7, 0, 7, 8, 8, 9).gaps(0, 2), 1);
        due("long both ways", with(0, 2, 7, 3, 8, 0, 12, 7, 13, 8, 0, 7, 2, 8, 3, 0, 7, 12, 8, 13).gaps(0, 8), 0);
    }

    private static void gapsAtThePlanesSides() {
        due("to the left side", with(0, 1, 7, 2, 8).gaps(0, 8), 0);
        due("to the right side", with(0, 14, 7, 15, 8).gaps(0, 8), 0);
        due("to the bottom", with(0, 7, 1, 8, 2).gaps(0, 8), 0);
        due("to the top", with(0, 7, 14, 8, 15).gaps(0, 8), 0);
        due("both ends of a row", with(0, 1, 7, 2, 8, 0, 14, 7, 15, 8).gaps(0, 8), 0);
        due("the end of a row and the start of the next", with(0, 14, 7, 15, 8, 0, 1, 8, 2, 9).gaps(0, 8), 0);
        due("from the left side", with(0, 0, 7, 1, 8, 0, 2, 7, 3, 8).gaps(0, 2), 1);
        due("up to the right side", with(0, 13, 7, 14, 8, 0, 15, 7, 16, 8).gaps(0, 2), 1);
        due("from the bottom", with(0, 7, 0, 8, 1, 0, 7, 2, 8, 3).gaps(0, 2), 1);
        due("up to the top", with(0, 7, 13, 8, 14, 0, 7, 15, 8, 16).gaps(0, 2), 1);
    }

    // ---- promises 1 and 2

    private static void noRectangles() {
        for (int layer = 0; layer < 3; layer++) {
            due("drop from layer " + layer, new DrcScan().drop(layer), BAD);
            due("add to layer " + layer, new DrcScan().add(layer, 1, 1), 1);
            due("area of layer " + layer, cells(new DrcScan(), layer), 0);
        }
    }

    private static void addLayerOutside() {
        for (int layer : NOT_0_TO_2) {
            due("layer " + layer, new DrcScan().add(layer, 16, 16), BAD);
        }
        due("layer 0", new DrcScan().add(0, 16, 16), 1);
        due("layer 2", new DrcScan().add(2, 16, 16), 1);
    }

    /** Numbers below 0 whose parts, cut to five bits or taken with their signs away, might pass for good ones. */
    private static int[] negatives() {
        return new int[] {-1, -16, -31, -32, -27, -32 + 16, -1024 + 16, -1024 + span(3, 7), -span(3, 7), -span(7, 3),
            LOW, LOW + 1, LOW + 16, LOW + span(3, 7), LOW + span(15, 16), -65536 + 16, HIGH + span(3, 7)};
    }

    private static void addNegativeX() {
        for (int bad : negatives()) {
            due("x " + bad, new DrcScan().add(0, bad, 16), BAD);
        }
        for (int bad = -1; bad >= -2048; bad--) {
            due("x " + bad, new DrcScan().add(0, bad, 16), BAD);
        }
        due("x 1", new DrcScan().add(0, 1, 16), 1);
    }

    private static void addNegativeY() {
        for (int bad : negatives()) {
            due("y " + bad, new DrcScan().add(0, 16, bad), BAD);
        }
        for (int bad = -1; bad >= -2048; bad--) {
            due("y " + bad, new DrcScan().add(0, 16, bad), BAD);
        }
        due("y 1", new DrcScan().add(0, 16, 1), 1);
    }

    private static void addTooLarge() {
        int good = span(3, 7);
        for (int bit = 9; bit < 31; bit++) {
            due("x with bit " + bit, new DrcScan().add(0, good + (1 << bit), 16), BAD);
            due("y with bit " + bit, new DrcScan().add(0, 16, good + (1 << bit)), BAD);
        }
        due("greatest x", new DrcScan().add(0, HIGH, 16), BAD);
        due("greatest y", new DrcScan().add(0, 16, HIGH), BAD);
        due("both greatest", new DrcScan().add(0, HIGH, HIGH), BAD);
        due("the greatest that are good", new DrcScan().add(0, 496, 496), 1);
    }

    private static DrcScan fullLayer(int layer) {
        DrcScan x = new DrcScan();
        for (int n = 0; n < 10; n++) {
            put(x, layer, n, n, n + 1, n + 1);
        }
        return x;
    }

    private static void addBadBeforeFull() {
        DrcScan x = fullLayer(2);
        due("left not below right", x.add(2, span(4, 4), 16), BAD);
        due("right above 16", x.add(2, 17, 16), BAD);
        due("bottom not below top", x.add(2, 16, span(4, 4)), BAD);
        due("top above 16", x.add(2, 16, 17), BAD);
        due("x negative", x.add(2, -1, 16), BAD);
        due("y negative", x.add(2, 16, -1), BAD);
        due("the layer after the full one", x.add(3, 16, 16), BAD);
        due("nothing else wrong", x.add(2, 16, 16), FULL);
    }

    private static void addFull() {
        for (int layer = 0; layer < 3; layer++) {
            DrcScan x = fullLayer(layer);
            due("the 11th of layer " + layer, x.add(layer, 1, 1), FULL);
            due("once more", x.add(layer, 16, 16), FULL);
            due("one it already has", x.add(layer, span(9, 10), span(9, 10)), FULL);
            due("another layer has room", x.add((layer + 1) % 3, 1, 1), 1);
            due("drop makes room", x.drop(layer), 9);
            due("for one", x.add(layer, 1, 1), 10);
            due("and not for two", x.add(layer, 1, 1), FULL);
        }
    }

    private static void addAnswersTheNumber() {
        DrcScan x = new DrcScan();
        for (int n = 1; n <= 10; n++) {
            due("add " + n + " to layer 1", x.add(1, 16, 16), n);
        }
        due("the first of layer 0", x.add(0, 16, 16), 1);
        due("the first of layer 2", x.add(2, 16, 16), 1);
        due("the second of layer 0", x.add(0, 1, 1), 2);
        x.drop(0);
        due("the second of layer 0 again", x.add(0, 1, 1), 2);
    }

    private static void addBadAddsNothing() {
        DrcScan x = with(0, 3, 3, 4, 4);
        for (int n = 0; n < 12; n++) {
            x.add(0, span(n, n), 16);
            x.add(0, 16, 17);
            x.add(0, -1, 16);
            x.add(3, 16, 16);
            x.add(-1, 16, 16);
        }
        for (int layer = 0; layer < 3; layer++) {
            due("cells of layer " + layer, cells(x, layer), layer == 0 ? 1 : 0);
            due("add to layer " + layer, x.add(layer, 1, 1), layer == 0 ? 2 : 1);
        }
    }

    private static void addFullAddsNothing() {
        for (int layer = 0; layer < 3; layer++) {
            DrcScan x = fullLayer(layer);
            for (int n = 0; n < 12; n++) {
                x.add(layer, 16, 16);
            }
            for (int other = 0; other < 3; other++) {
                due("cells of layer " + other, cells(x, other), other == layer ? 10 : 0);
            }
            due("the oldest is there", x.covers(layer, 0, 0), true);
            due("drop", x.drop(layer), 9);
            due("the oldest is gone", x.covers(layer, 0, 0), false);
        }
    }

    // ---- promises 3 and 4

    private static void dropTakesTheOldest() {
        for (int layer = 0; layer < 3; layer++) {
            DrcScan x = fullLayer(layer);
            for (int n = 0; n < 10; n++) {
                x.drop(layer);
                for (int m = 0; m < 10; m++) {
                    due("rectangle " + m + " after drop " + n, x.covers(layer, m, m), m > n);
                }
            }
        }
        DrcScan same = with(0, 5, 5, 6, 6, 0, 7, 7, 8, 8, 0, 5, 5, 6, 6);
        same.drop(0);
        due("the same rectangle, added later, stays", same.covers(0, 5, 5), true);
        same.drop(0);
        due("the second goes next", same.covers(0, 7, 7), false);
        due("the last stays", same.covers(0, 5, 5), true);
    }

    private static void dropAnswersTheNumberLeft() {
        DrcScan x = fullLayer(1);
        put(x, 0, 0, 0, 1, 1);
        for (int n = 9; n >= 0; n--) {
            due("drop to " + n, x.drop(1), n);
        }
        due("another layer has its own number", x.drop(0), 0);
    }

    private static void dropLayerOutside() {
        for (int layer : NOT_0_TO_2) {
            due("layer " + layer, whole().drop(layer), BAD);
        }
    }

    private static void dropIfThereIsNone() {
        for (int layer = 0; layer < 3; layer++) {
            DrcScan x = whole();
            due("the only one of layer " + layer, x.drop(layer), 0);
            due("none left", x.drop(layer), BAD);
            due("still none", x.drop(layer), BAD);
        }
    }

    private static void dropBadChangesNothing() {
        DrcScan x = with(1, 3, 3, 4, 4);
        for (int n = 0; n < 3; n++) {
            x.drop(0);
            x.drop(2);
            x.drop(3);
            x.drop(-1);
        }
        due("layer 1 keeps its cell", cells(x, 1), 1);
        due("layer 0 counts from 1", x.add(0, 1, 1), 1);
        due("layer 1 counts on", x.add(1, 1, 1), 2);
        due("layer 2 counts from 1", x.add(2, 1, 1), 1);
        due("cells of layer 0", cells(x, 0), 1);
    }

    private static void coversAtTheEdges() {
        DrcScan x = with(1, 3, 5, 8, 11);
        int[][] inside = {{3, 5}, {7, 5}, {3, 10}, {7, 10}};
        int[][] outside = {{2, 5}, {3, 4}, {8, 5}, {7, 4}, {2, 10}, {3, 11}, {8, 10}, {7, 11}};
        for (int[] cell : inside) {
            due("cell " + cell[0] + " " + cell[1], x.covers(1, cell[0], cell[1]), true);
        }
        for (int[] cell : outside) {
            due("cell " + cell[0] + " " + cell[1], x.covers(1, cell[0], cell[1]), false);
        }
        due("a layer without rectangles", x.covers(0, 3, 5), false);
        x.drop(1);
        due("after the drop", x.covers(1, 3, 5), false);
    }

    private static void coversLayerOutside() {
        for (int layer : NOT_0_TO_2) {
            due("layer " + layer, whole().covers(layer, 7, 7), false);
        }
    }

    private static void coversColumnOutside() {
        for (int i : NOT_0_TO_15) {
            due("i " + i, whole().covers(1, i, 7), false);
        }
        due("i 0", whole().covers(1, 0, 7), true);
        due("i 15", whole().covers(1, 15, 7), true);
    }

    private static void coversRowOutside() {
        for (int j : NOT_0_TO_15) {
            due("j " + j, whole().covers(1, 7, j), false);
        }
        due("j 0", whole().covers(1, 7, 0), true);
        due("j 15", whole().covers(1, 7, 15), true);
    }

    // ---- promises 5 to 7

    private static void areaNoneOneAll() {
        due("none", new DrcScan().area(OR, 0, 1), 0);
        due("one", with(0, 15, 15, 16, 16).area(OR, 0, 1), 1);
        due("all", whole().area(AND, 0, 1), 256);
        due("all but none", whole().area(LESS, 0, 1), 0);
        due("all but one", with(0, 0, 0, 16, 16, 1, 15, 15, 16, 16).area(LESS, 0, 1), 255);
    }

    private static void areaHowOutside() {
        for (int how : NOT_0_TO_2) {
            due("how " + how, whole().area(how, 0, 1), BAD);
        }
        due("how 0", whole().area(0, 0, 1), 256);
        due("how 2", whole().area(2, 0, 1), 0);
    }

    private static void areaFirstOutside() {
        for (int a : NOT_0_TO_2) {
            for (int how = 0; how < 3; how++) {
                due("how " + how + ", a " + a, whole().area(how, a, 1), BAD);
            }
        }
    }

    private static void areaSecondOutside() {
        for (int b : NOT_0_TO_2) {
            for (int how = 0; how < 3; how++) {
                due("how " + how + ", b " + b, whole().area(how, 1, b), BAD);
            }
        }
    }

    private static void outlineNoneToMost() {
        due("none", new DrcScan().outline(OR, 0, 1), 0);
        due("LESS to none", whole().outline(LESS, 0, 1), 0);
        due("one cell", with(0, 15, 15, 16, 16).outline(OR, 0, 1), 4);
        due("all cells", whole().outline(AND, 0, 1), 64);
        due("all but a corner cell", with(0, 0, 0, 16, 16, 1, 15, 15, 16, 16).outline(LESS, 0, 1), 64);
        due("64 cells apart", dots().outline(LESS, 0, 1), 256);
    }

    private static void outlineHowOutside() {
        for (int how : NOT_0_TO_2) {
            due("how " + how, whole().outline(how, 0, 1), BAD);
        }
        due("how 0", whole().outline(0, 0, 1), 64);
        due("how 2", whole().outline(2, 0, 1), 0);
    }

    private static void outlineFirstOutside() {
        for (int a : NOT_0_TO_2) {
            for (int how = 0; how < 3; how++) {
                due("how " + how + ", a " + a, whole().outline(how, a, 1), BAD);
            }
        }
    }

    private static void outlineSecondOutside() {
        for (int b : NOT_0_TO_2) {
            for (int how = 0; how < 3; how++) {
                due("how " + how + ", b " + b, whole().outline(how, 1, b), BAD);
            }
        }
    }

    private static void cornersNoneToMost() {
        due("none", new DrcScan().corners(OR, 0, 1), 0);
        due("LESS to none", whole().corners(LESS, 0, 1), 0);
        due("one cell", with(0, 7, 7, 8, 8).corners(OR, 0, 1), 4);
        due("all cells", whole().corners(AND, 0, 1), 4);
        due("64 cells apart", dots().corners(LESS, 0, 1), 256);
    }

    private static void cornersJustOneEach() {
        due("a straight line has none between its ends", with(0, 3, 3, 9, 4).corners(OR, 0, 0), 4);
        due("two that meet along a side", with(0, 3, 3, 6, 6, 0, 6, 3, 9, 6).corners(OR, 0, 0), 4);
        due("two of unlike height", with(0, 3, 3, 6, 6, 0, 6, 3, 9, 7).corners(OR, 0, 0), 6);
        due("four edges at a point, rising", with(0, 3, 3, 6, 6, 0, 6, 6, 9, 9).corners(OR, 0, 0), 6);
        due("four edges at a point, falling", with(0, 3, 6, 6, 9, 0, 6, 3, 9, 6).corners(OR, 0, 0), 6);
        due("holes that meet at a point", with(0, 0, 0, 9, 9, 1, 3, 3, 4, 4, 1, 4, 4, 5, 5).corners(LESS, 0, 1), 10);
        due("the corner of a hole", with(0, 0, 0, 9, 9, 1, 3, 3, 4, 4).corners(LESS, 0, 1), 8);
        due("an inner corner", with(0, 3, 3, 9, 5, 0, 3, 3, 5, 9).corners(OR, 0, 0), 6);
    }

    private static void cornersOnThePlanesSides() {
        int[] ends = {0, 15};
        for (int i : ends) {
            for (int j : ends) {
                due("the corner cell " + i + " " + j, with(0, i, j, i + 1, j + 1).corners(OR, 0, 0), 4);
            }
        }
        due("at the left", with(0, 0, 7, 1, 8).corners(OR, 0, 0), 4);
        due("at the right", with(0, 15, 7, 16, 8).corners(OR, 0, 0), 4);
        due("at the bottom", with(0, 7, 0, 8, 1).corners(OR, 0, 0), 4);
        due("at the top", with(0, 7, 15, 8, 16).corners(OR, 0, 0), 4);
        due("without a corner cell", with(0, 0, 0, 16, 16, 1, 15, 15, 16, 16).corners(LESS, 0, 1), 6);
    }

    private static void cornersHowOutside() {
        for (int how : NOT_0_TO_2) {
            due("how " + how, whole().corners(how, 0, 1), BAD);
        }
        due("how 0", whole().corners(0, 0, 1), 4);
        due("how 2", whole().corners(2, 0, 1), 0);
    }

    private static void cornersFirstOutside() {
        for (int a : NOT_0_TO_2) {
            for (int how = 0; how < 3; how++) {
                due("how " + how + ", a " + a, whole().corners(how, a, 1), BAD);
            }
        }
    }

    private static void cornersSecondOutside() {
        for (int b : NOT_0_TO_2) {
            for (int how = 0; how < 3; how++) {
                due("how " + how + ", b " + b, whole().corners(how, 1, b), BAD);
            }
        }
    }

    // ---- promises 8 and 9

    private static void thinNoneOneAll() {
        due("no cells", new DrcScan().thin(0, 8), 0);
        due("one cell for 1", with(0, 7, 7, 8, 8).thin(0, 1), 0);
        due("one cell for 2", with(0, 7, 7, 8, 8).thin(0, 2), 1);
        due("all cells for 8", whole().thin(0, 8), 0);
        due("8 by 8 for 8", with(0, 4, 4, 12, 12).thin(0, 8), 0);
        due("7 by 7 for 8", with(0, 4, 4, 11, 11).thin(0, 8), 49);
        due("all cells but a cross of two lines", with(0, 0, 0, 7, 7, 0, 9, 0, 16, 7, 0, 0, 9, 7, 16, 0, 9, 9, 16, 16)
            .thin(0, 8), 196);
    }

    private static void thinLayerOutside() {
        for (int layer : NOT_0_TO_2) {
            due("layer " + layer, whole().thin(layer, 1), BAD);
            due("layer " + layer, whole().thin(layer, 8), BAD);
        }
    }

    private static void thinWidthOutside() {
        for (int w : NOT_1_TO_8) {
            due("w " + w, whole().thin(0, w), BAD);
            due("w " + w + ", no cells", new DrcScan().thin(0, w), BAD);
        }
        due("w 1", with(0, 0, 0, 1, 1).thin(0, 1), 0);
        due("w 8", with(0, 0, 0, 1, 1).thin(0, 8), 1);
    }

    private static void gapsNoneOneMost() {
        due("no cells", new DrcScan().gaps(0, 8), 0);
        due("one cell", with(0, 7, 7, 8, 8).gaps(0, 8), 0);
        due("all cells", whole().gaps(0, 8), 0);
        due("one gap for 1", with(0, 6, 7, 7, 8, 0, 8, 7, 9, 8).gaps(0, 1), 0);
        due("one gap for 2", with(0, 6, 7, 7, 8, 0, 8, 7, 9, 8).gaps(0, 2), 1);
        due("three columns, the rest gaps", with(0, 0, 0, 1, 16, 0, 8, 0, 9, 16, 0, 15, 0, 16, 16).gaps(0, 8), 208);
        due("7 by 7 in a frame for 8", with(0, 3, 3, 12, 4, 0, 3, 11, 12, 12, 0, 3, 3, 4, 12, 0, 11, 3, 12, 12)
            .gaps(0, 8), 49);
        due("8 by 8 in a frame for 8", with(0, 3, 3, 13, 4, 0, 3, 12, 13, 13, 0, 3, 3, 4, 13, 0, 12, 3, 13, 13)
            .gaps(0, 8), 0);
    }

    private static void gapsLayerOutside() {
        for (int layer : NOT_0_TO_2) {
            due("layer " + layer, whole().gaps(layer, 1), BAD);
            due("layer " + layer, whole().gaps(layer, 8), BAD);
        }
    }

    private static void gapsSpaceOutside() {
        for (int s : NOT_1_TO_8) {
            due("s " + s, whole().gaps(0, s), BAD);
            due("s " + s + ", no cells", new DrcScan().gaps(0, s), BAD);
        }
        due("s 1", with(0, 6, 7, 7, 8, 0, 8, 7, 9, 8).gaps(0, 1), 0);
        due("s 8", with(0, 6, 7, 7, 8, 0, 8, 7, 9, 8).gaps(0, 8), 1);
    }

    // ---- promise 10

    /** The plane's columns or rows from one side up to m beyond the cell at the other end of it, and no further. */
    private static void enclosureFrom0To8() {
        for (int m = 0; m <= 8; m++) {
            due("to the right " + m, with(0, 0, 0, m + 1, 16, 1, 0, 7, 1, 8).enclosure(0, 1), m);
            due("to the left " + m, with(0, 15 - m, 0, 16, 16, 1, 15, 7, 16, 8).enclosure(0, 1), m);
            due("upwards " + m, with(0, 0, 0, 16, m + 1, 1, 7, 0, 8, 1).enclosure(0, 1), m);
            due("downwards " + m, with(0, 0, 15 - m, 16, 16, 1, 7, 15, 8, 16).enclosure(0, 1), m);
        }
        for (int m = 0; m <= 7; m++) {
            due("all around " + m, with(0, 7 - m, 7 - m, 8 + m, 8 + m, 1, 7, 7, 8, 8).enclosure(0, 1), m);
        }
    }

    private static void enclosureNeverAbove8() {
        for (int wide = 9; wide <= 16; wide++) {
            due("to the right " + (wide - 1), with(0, 0, 0, wide, 16, 1, 0, 7, 1, 8).enclosure(0, 1), 8);
        }
        due("all cells and one", with(0, 0, 0, 16, 16, 1, 0, 0, 1, 1).enclosure(0, 1), 8);
        due("all cells and all", whole().enclosure(0, 1), 8);
        due("all cells and themselves", whole().enclosure(0, 0), 8);
    }

    private static void enclosureOfEveryCell() {
        due("the last of ten reaches out", with(0, 0, 0, 12, 16, 1, 0, 0, 1, 1, 1, 11, 15, 12, 16).enclosure(0, 1), 0);
        due("one of many is outside", with(0, 0, 0, 12, 16, 1, 0, 0, 12, 16, 1, 12, 15, 13, 16).enclosure(0, 1), -1);
        due("a missing cell in the middle", with(0, 0, 0, 16, 7, 0, 0, 8, 16, 16, 0, 0, 7, 7, 8, 0, 8, 7, 16, 8, 1, 5, 5, 6, 6)
            .enclosure(0, 1), 1);
        due("a missing cell under b", with(0, 0, 0, 16, 7, 0, 0, 8, 16, 16, 0, 0, 7, 7, 8, 0, 8, 7, 16, 8, 1, 5, 5, 9, 9)
            .enclosure(0, 1), -1);
        due("a layer and itself", with(0, 3, 3, 9, 9).enclosure(0, 0), 0);
    }

    private static void enclosureInsideThePlane() {
        due("the low corner", with(0, 0, 0, 4, 4, 1, 0, 0, 1, 1).enclosure(0, 1), 3);
        due("the high corner", with(0, 12, 12, 16, 16, 1, 15, 15, 16, 16).enclosure(0, 1), 3);
        due("the high low corner", with(0, 12, 0, 16, 4, 1, 15, 0, 16, 1).enclosure(0, 1), 3);
        due("the low high corner", with(0, 0, 12, 4, 16, 1, 0, 15, 1, 16).enclosure(0, 1), 3);
        due("a band from side to side", with(0, 0, 5, 16, 11, 1, 0, 7, 16, 9).enclosure(0, 1), 2);
        due("a band from bottom to top", with(0, 5, 0, 11, 16, 1, 7, 0, 9, 16).enclosure(0, 1), 2);
        due("column 0 missing", with(0, 1, 0, 16, 16, 1, 4, 7, 5, 8).enclosure(0, 1), 3);
        due("column 15 missing", with(0, 0, 0, 15, 16, 1, 11, 7, 12, 8).enclosure(0, 1), 3);
        due("row 0 missing", with(0, 0, 1, 16, 16, 1, 7, 4, 8, 5).enclosure(0, 1), 3);
        due("row 15 missing", with(0, 0, 0, 16, 15, 1, 7, 11, 8, 12).enclosure(0, 1), 3);
        due("cell 0 0 missing", with(0, 1, 0, 16, 16, 0, 0, 1, 16, 16, 1, 4, 4, 5, 5).enclosure(0, 1), 3);
        due("cell 15 0 missing", with(0, 0, 0, 15, 16, 0, 0, 1, 16, 16, 1, 11, 4, 12, 5).enclosure(0, 1), 3);
        due("cell 0 15 missing", with(0, 1, 0, 16, 16, 0, 0, 0, 16, 15, 1, 4, 11, 5, 12).enclosure(0, 1), 3);
        due("cell 15 15 missing", with(0, 0, 0, 15, 16, 0, 0, 0, 16, 15, 1, 11, 11, 12, 12).enclosure(0, 1), 3);
    }

    private static void enclosureColumnsAndRows() {
        // Layer 0 lacks just the square from (10, 10) up, so only cells that are away both ways are missing.
        due("aslant by 3", with(0, 0, 0, 16, 10, 0, 0, 0, 10, 16, 1, 7, 7, 8, 8).enclosure(0, 1), 2);
        due("by 3 columns and 1 row", with(0, 0, 0, 16, 10, 0, 0, 0, 10, 16, 1, 7, 9, 8, 10).enclosure(0, 1), 2);
        due("by 1 column and 3 rows", with(0, 0, 0, 16, 10, 0, 0, 0, 10, 16, 1, 9, 7, 10, 8).enclosure(0, 1), 2);
        due("aslant by 1", with(0, 0, 0, 16, 10, 0, 0, 0, 10, 16, 1, 9, 9, 10, 10).enclosure(0, 1), 0);
        due("in line with it", with(0, 0, 0, 16, 10, 0, 0, 0, 10, 16, 1, 12, 5, 13, 6).enclosure(0, 1), 4);
        due("aslant the other way", with(0, 0, 6, 16, 16, 0, 0, 0, 10, 16, 1, 7, 8, 8, 9).enclosure(0, 1), 2);
        due("aslant downwards", with(0, 6, 0, 16, 16, 0, 0, 6, 16, 16, 1, 8, 8, 9, 9).enclosure(0, 1), 2);
    }

    private static void enclosureNotEven0() {
        due("a has no cells", with(1, 3, 3, 4, 4).enclosure(0, 1), -1);
        due("apart", with(0, 3, 3, 4, 4, 1, 9, 9, 10, 10).enclosure(0, 1), -1);
        due("beside each other", with(0, 3, 3, 4, 4, 1, 4, 3, 5, 4).enclosure(0, 1), -1);
        due("one column too wide", with(0, 3, 3, 8, 8, 1, 3, 3, 9, 8).enclosure(0, 1), -1);
        due("one row too high", with(0, 3, 3, 8, 8, 1, 3, 3, 8, 9).enclosure(0, 1), -1);
        due("just as large", with(0, 3, 3, 8, 8, 1, 3, 3, 8, 8).enclosure(0, 1), 0);
        due("all but a corner cell", with(0, 0, 0, 16, 15, 0, 0, 15, 15, 16, 1, 0, 0, 16, 16).enclosure(0, 1), -1);
    }

    private static void enclosureOfNoCells() {
        due("both empty", new DrcScan().enclosure(0, 1), 8);
        due("one empty layer with itself", new DrcScan().enclosure(2, 2), 8);
        due("a has one cell", with(0, 3, 3, 4, 4).enclosure(0, 1), 8);
        due("a has all cells", with(0, 0, 0, 16, 16).enclosure(0, 1), 8);
        DrcScan emptied = with(1, 3, 3, 4, 4);
        due("before b is emptied", emptied.enclosure(0, 1), -1);
        emptied.drop(1);
        due("after b is emptied", emptied.enclosure(0, 1), 8);
    }

    private static void enclosureFirstOutside() {
        for (int a : NOT_0_TO_2) {
            due("a " + a, whole().enclosure(a, 1), BAD);
            due("a " + a + ", b without cells", new DrcScan().enclosure(a, 1), BAD);
            due("a and b " + a, whole().enclosure(a, a), BAD);
        }
    }

    private static void enclosureSecondOutside() {
        for (int b : NOT_0_TO_2) {
            due("b " + b, whole().enclosure(1, b), BAD);
            due("b " + b + ", a without cells", new DrcScan().enclosure(1, b), BAD);
        }
    }
}
