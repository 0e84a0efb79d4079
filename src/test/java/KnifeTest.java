/** The sentences under THE KNIFE: edges, corners, loops, and where the knife goes next. */
public final class KnifeTest {
    private static final int UNKNOWN = -1, OUTSIDE = -2, NONE = -6;
    private static final int LOW = Integer.MIN_VALUE, HIGH = Integer.MAX_VALUE;

    public static void main(String[] args) {
        nothingToCut();
        for (int wide = 3; wide <= 10; wide++) {
            for (int high = 3; high <= 10; high++) {
                oneOpenCell(wide, high);
                wholeLines(wide, high);
            }
        }
        edgesWithTheFrame();
        edgesOfTheBridgedLayer();
        commonCorners();
        loopAroundLooseIsland();
        numbersOfLoops();
        cornersInOrder();
        onlyLoopsThatAreNotCut();
        airPath();
        beginsAtTheFirstCorner();
        distanceIsASum();
        backwards();
        lowestLoopOfSeveral();
        firstCornerOfSeveral();
        staysAtTheSameCorner();
        mostLoops();
        noSuchLoop();
        propertiesOfLoop();
        whatOfKnifeAndLoop();
        Check.finish();
    }

    private static void nothingToCut() {
        Check.sentence("NONE if there are not so many loops or k is negative");
        StencilCuts x = new StencilCuts();
        Due.knife("nothing", x, 0, 0, 0, 0);
        for (int what = 0; what < 4; what++) {
            Check.due("loop 0, " + what, x.loop(0, 0, what), NONE);
        }
    }

    private static void oneOpenCell(int wide, int high) {
        Check.sentence("The corners are (x, y), with x from 0 to W and y from 0 to H; corner (x, y)"
                + " is the one of cell (x, y) with the lowest coordinates; each edge joins two of them.");
        for (int y = 0; y < high; y++) {
            for (int x = 0; x < wide; x++) {
                StencilCuts one = new StencilCuts();
                one.sheet(wide, high);
                one.cut(1, x, y, 1);
                String name = "(" + x + ", " + y + ") of " + wide + " by " + high;
                Due.knife(name, one, 1, 4, 1, x + y);
                Due.loop(name, one, 1, 0, 0, 4, x, y);
                Check.due(name + " loop 1", one.loop(1, 1, 0), NONE);
            }
        }
    }

    /** The last row and the last column: their edges lie between corners with y = H or x = W. */
    private static void wholeLines(int wide, int high) {
        Check.sentence("The corners are (x, y), with x from 0 to W and y from 0 to H");
        String name = wide + " by " + high;
        StencilCuts row = new StencilCuts();
        row.sheet(wide, high);
        row.row(0, high - 1, 1023);
        Due.knife("last row of " + name, row, 0, 2 * wide + 2, 1, high - 1);
        Due.loop("last row of " + name, row, 0, 0, 0, 2 * wide + 2, 0, high - 1);
        StencilCuts column = new StencilCuts();
        column.sheet(wide, high);
        for (int y = 0; y < high; y++) {
            column.cut(0, wide - 1, y, 1);
        }
        Due.knife("last column of " + name, column, 0, 2 * high + 2, 1, wide - 1);
        Due.loop("last column of " + name, column, 0, 0, 0, 2 * high + 2, wide - 1, 0);
    }

    private static void edgesWithTheFrame() {
        Check.sentence("The edges of a layer are the sides between an open and a closed cell, or"
                + " between an open cell and the frame, in the bridged layer.");
        Due.knife("full", Drawing.full(0, 3, 3), 0, 12, 1, 0);
        Due.knife("largest", Drawing.full(0, 10, 10), 0, 40, 1, 0);
        Due.knife("no side between open cells", Drawing.of(0, "....", ".##.", "...."), 0, 6, 1, 2);
        Due.knife("nor between a closed cell and the frame", Drawing.of(0, "...", ".#.", "..."), 0,
                4, 1, 2);
        // Each closed cell in a corner replaces two sides with two others.
        Due.knife("closed corners", Drawing.of(0, ".##.", "####", "####", ".##."), 0, 16, 1, 1);
    }

    private static void edgesOfTheBridgedLayer() {
        Check.sentence("or between an open cell and the frame, in the bridged layer");
        // Without its bridge, each ring would have a loop outside and one inside.
        Due.knife("ring", Drawing.of(0, ".....", ".###.", ".#.#.", ".###.", "....."), 0, 16, 1, 2);
        Due.knife("at the frame", Drawing.of(0, "###", "#.#", "###"), 0, 16, 1, 0);
        // Two bridges and two islands make a slot that ends before the last column.
        Due.knife("slot", Drawing.of(0, "#####", "#.#.#", "#####"), 0, 24, 1, 0);
    }

    private static void commonCorners() {
        Check.sentence("The loops are the maximal sets of edges that are connected by common corners");
        Due.knife("a corner", Drawing.of(0, "#..", ".#.", "..."), 0, 8, 1, 0);
        Due.knife("the other corner", Drawing.of(0, ".#.", "#..", "..."), 0, 8, 1, 1);
        Due.knife("three in a row", Drawing.of(0, "#..", ".#.", "..#"), 0, 12, 1, 0);
        Due.knife("no corner", Drawing.of(0, "#..", "...", "..#"), 0, 8, 2, 4);
        Due.knife("one cell between", Drawing.of(0, "#.#", "...", "..."), 0, 8, 2, 2);
        Due.knife("four corners", Drawing.of(0, "#.#", ".#.", "#.#"), 0, 20, 1, 0);
    }

    private static void loopAroundLooseIsland() {
        Check.sentence("The loops are the maximal sets of edges that are connected by common corners");
        // Each run of the island at (3, 3) touches one of the bridges (2, 0), (0, 4), (6, 4) and
        // (2, 6), and it has no corner in common with any other closed cell.
        StencilCuts x = Drawing.of(2,
                ".###.##",
                "##.###.",
                "#######",
                "###.###",
                "#.###.#",
                "##.####",
                ".######");
        Due.layer("loose", x, 2, 40, 5, 1, 4, 4, 1, 7, 18);
        Due.knife("loose", x, 2, 52, 2, 6);
        Due.loop("around all", x, 2, 0, 0, 48, 1, 0);
        Due.loop("around the loose island", x, 2, 1, 1, 4, 3, 3);
    }

    private static void numbersOfLoops() {
        Check.sentence("numbered from 0 in the order of their first corners");
        // (2, 0) is before (0, 1) by y, though the knife comes to (0, 1) first.
        StencilCuts x = Drawing.of(0, "..#.", "#...", "....");
        Due.loop("by y", x, 0, 0, 1, 4, 0, 1);
        Due.loop("by y", x, 0, 1, 0, 4, 2, 1);
        Due.knife("by y", x, 0, 8, 2, 3);
        // The first corner of the hook is (4, 0), before (1, 1), though it has corners left of it.
        StencilCuts hook = Drawing.of(0, "....#.", ".#..#.", "....#.", "#####.");
        Due.loop("hook", hook, 0, 0, 1, 4, 1, 1);
        Due.loop("hook", hook, 0, 1, 0, 18, 1, 3);
        Due.knife("hook", hook, 0, 22, 2, 4);
    }

    private static void cornersInOrder() {
        Check.sentence("Corners are ordered like cells.");
        // The first corners are (4, 0), (1, 1) and (0, 3): by y, then by x.
        StencilCuts x = cellsOf(6, 5, 0, 3, 4, 0, 1, 1);
        x.cut(0, 5, 0, 1);
        Check.due("loops", x.knife(0, 1), 3);
        Due.loop("(1, 1) is the second one", x, 0, 0, 1, 4, 1, 1);
        Due.loop("(0, 3) is the last one", x, 0, 1, 2, 4, 1, 3);
        Due.loop("(4, 0) is the first one", x, 0, 2, 0, 6, 4, 1);
        StencilCuts row = cellsOf(7, 3, 4, 1, 0, 1, 2, 1);
        for (int k = 0; k < 3; k++) {
            Due.loop("in one row", row, 0, k, k, 4, 2 * k, 1);
        }
    }

    private static void onlyLoopsThatAreNotCut() {
        Check.sentence("Of all corners of the loops that it has not cut yet, it goes through the air to"
                + " the nearest one");
        // Between (1, 0) and (4, 0) lie two more corners of the loop that is cut already.
        StencilCuts x = Drawing.of(0, ".##.#", ".....", ".....");
        Due.loop("the first one", x, 0, 0, 0, 6, 1, 0);
        Due.loop("the other one", x, 0, 1, 1, 4, 4, 0);
        Check.due("none is cut twice", x.loop(0, 2, 0), NONE);
        // The nearest corner of a loop need not be its first one.
        StencilCuts bar = Drawing.of(0, "...###", "...#..", ".###..");
        Due.loop("the first corner, as near as (1, 2)", bar, 0, 0, 0, 16, 3, 0);
        StencilCuts low = Drawing.of(0, "....##", "....#.", ".####.");
        Due.loop("not the first corner", low, 0, 0, 0, 16, 1, 2);
    }

    private static void airPath() {
        Check.sentence("The air path is the sum of all distances that it goes through the air.");
        Check.due("none", new StencilCuts().knife(0, 2), 0);
        Check.due("from (0, 0) to the first loop", cellsOf(5, 5, 2, 1).knife(0, 2), 3);
        Check.due("and to the next one", cellsOf(5, 5, 2, 1, 2, 3).knife(0, 2), 3 + 2);
        Check.due("and to the last one", cellsOf(5, 5, 2, 1, 2, 3, 4, 3).knife(0, 2), 3 + 2 + 2);
        Check.due("nothing for the way back", cellsOf(10, 10, 9, 9).knife(0, 2), 18);
        Check.due("nothing for the cuts", Drawing.full(0, 10, 10).knife(0, 2), 0);
    }

    private static void beginsAtTheFirstCorner() {
        Check.sentence("The knife begins at corner (0, 0).");
        Due.knife("no way", Drawing.of(0, "#..", "...", "..."), 0, 4, 1, 0);
        Due.knife("the longest way", cellsOf(10, 10, 9, 9), 0, 4, 1, 18);
        StencilCuts x = cellsOf(10, 10, 9, 9, 9, 0, 0, 8);
        Due.loop("nearest to (0, 0)", x, 0, 0, 1, 4, 0, 8);
        Due.loop("then from there", x, 0, 1, 2, 4, 9, 9);
        Due.loop("then the last one", x, 0, 2, 0, 4, 9, 1);
        Due.knife("three", x, 0, 12, 3, 8 + 10 + 8);
    }

    /** A sheet with these open cells of layer 0: x and y of each in turn. */
    private static StencilCuts cellsOf(int wide, int high, int... cells) {
        StencilCuts x = new StencilCuts();
        x.sheet(wide, high);
        for (int k = 0; k < cells.length; k += 2) {
            x.cut(0, cells[k], cells[k + 1], 1);
        }
        return x;
    }

    private static void distanceIsASum() {
        Check.sentence("(the distance is the absolute difference in x plus that in y");
        // (5, 0) is nearer than (3, 3), which would be nearer by the larger one or by squares.
        StencilCuts x = cellsOf(7, 7, 5, 0, 3, 3);
        Due.loop("sum", x, 0, 0, 0, 4, 5, 0);
        Due.loop("sum", x, 0, 1, 1, 4, 4, 3);
        Due.knife("sum", x, 0, 8, 2, 9);
    }

    private static void backwards() {
        Check.sentence("(the distance is the absolute difference in x plus that in y");
        StencilCuts up = cellsOf(5, 4, 4, 0, 0, 2);
        Due.loop("up", up, 0, 0, 1, 4, 0, 2);
        Due.loop("up", up, 0, 1, 0, 4, 4, 1);
        Due.knife("up", up, 0, 8, 2, 7);
        StencilCuts left = cellsOf(4, 6, 2, 0, 0, 4);
        Due.loop("left", left, 0, 0, 0, 4, 2, 0);
        Due.loop("left", left, 0, 1, 1, 4, 1, 4);
        Due.knife("left", left, 0, 8, 2, 7);
    }

    private static void lowestLoopOfSeveral() {
        Check.sentence("of several, to that of the loop with the lowest number, and of this one to"
                + " the first)");
        StencilCuts plain = cellsOf(5, 5, 2, 0, 0, 2);
        Due.loop("(2, 0) or (0, 2)", plain, 0, 0, 0, 4, 2, 0);
        // From (0, 0), (1, 3) of loop 0 is as near as (3, 1) of loop 1, an earlier corner.
        StencilCuts x = Drawing.of(0, ".....#.", "...#.#.", ".....#.", ".#####.");
        Due.loop("the later corner", x, 0, 0, 0, 18, 1, 3);
        Due.loop("the later corner", x, 0, 1, 1, 4, 3, 2);
        Due.knife("the later corner", x, 0, 22, 2, 7);
    }

    private static void firstCornerOfSeveral() {
        Check.sentence("of several, to that of the loop with the lowest number, and of this one to"
                + " the first)");
        Due.loop("(2, 0), (1, 1) or (0, 2)", Drawing.of(0, "..#", ".##", "##."), 0, 0, 0, 12, 2, 0);
        Due.loop("(3, 0) or (0, 3)", Drawing.of(0, "...#", "...#", "...#", "####"), 0, 0, 0, 16, 3, 0);
        Due.loop("(2, 1) or (1, 2)", Drawing.of(0, "....", "..#.", ".##.", "...."), 0, 0, 0, 8, 2, 1);
    }

    private static void staysAtTheSameCorner() {
        Check.sentence("cuts this loop, and is at the same corner then");
        // The first loop ends beside the second one, but the knife goes on from (0, 0).
        StencilCuts x = Drawing.of(0, "#######", ".......", "......#");
        Due.loop("row", x, 0, 0, 0, 16, 0, 0);
        Due.loop("row", x, 0, 1, 1, 4, 6, 2);
        Due.knife("row", x, 0, 20, 2, 8);
    }

    private static void mostLoops() {
        Check.sentence("and so on until all loops are cut");
        StencilCuts x = new StencilCuts();
        x.sheet(10, 10);
        for (int y = 0; y < 10; y += 2) {
            x.row(0, y, 0b0101010101);
        }
        Due.knife("25 cells", x, 0, 100, 25, 44);
        int[] due = {0, 1, 2, 3, 4, 9, 8, 7, 6, 5, 10, 11, 12, 13, 14, 19, 18, 17, 16, 15, 20, 21, 22,
            23, 24};
        for (int k = 0; k < 25; k++) {
            Check.due("25 cells, loop " + k, x.loop(0, k, 0), due[k]);
        }
        Due.loop("to the right", x, 0, 4, 4, 4, 8, 0);
        Due.loop("back to the left", x, 0, 6, 8, 4, 7, 2);
        Due.loop("the last one", x, 0, 24, 24, 4, 8, 8);
        Check.due("no other", x.loop(0, 25, 0), NONE);
    }

    private static void noSuchLoop() {
        Check.sentence("NONE if there are not so many loops or k is negative");
        StencilCuts x = Drawing.of(0, "#.#", "...", "#.#");
        for (int what = 0; what < 4; what++) {
            for (int k : new int[] {LOW, -6, -1, 4, 5, 36, 144, HIGH}) {
                Check.due("loop " + k + ", " + what, x.loop(0, k, what), NONE);
            }
            Check.due("another layer, " + what, x.loop(1, 0, what), NONE);
        }
        Check.due("the last one", x.loop(0, 3, 1), 4);
    }

    private static void propertiesOfLoop() {
        Check.sentence("0 the number of the loop, 1 the number of its edges, 2 x and 3 y of the corner at"
                + " which the knife comes to it");
        StencilCuts x = Drawing.of(1, "...##.", "......", "#.....", "##....");
        Due.loop("the one below", x, 1, 0, 1, 8, 0, 2);
        Due.loop("the one above", x, 1, 1, 0, 6, 3, 1);
        Check.sentence("the position in this order, from 0");
        Check.due("position 2", x.loop(1, 2, 0), NONE);
        Check.sentence("0 the number of edges, 1 the number of loops, 2 the air path");
        Due.knife("both", x, 1, 14, 2, 2 + 4);
    }

    private static void whatOfKnifeAndLoop() {
        Check.sentence("UNKNOWN if there is no such layer; OUTSIDE if what is out of range.");
        StencilCuts x = Drawing.of(3, "#.#", "...", "#.#");
        for (int what : new int[] {LOW, -1, 4, 5, HIGH}) {
            Check.due("knife what " + what, x.knife(3, what), OUTSIDE);
            Check.due("loop what " + what, x.loop(3, 0, what), OUTSIDE);
            Check.due("no loop, what " + what, x.loop(3, 4, what), OUTSIDE);
        }
        Check.due("knife what 3", x.knife(3, 3), OUTSIDE);
        Check.due("loop what 3", x.loop(3, 0, 3), 0);
        for (int layer : new int[] {LOW, -1, 4, HIGH}) {
            Check.due("knife of layer " + layer, x.knife(layer, 0), UNKNOWN);
            Check.due("loop of layer " + layer, x.loop(layer, 0, 0), UNKNOWN);
        }
    }
}
