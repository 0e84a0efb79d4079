/** The sentences under THE SHEET: sizes, borders, the frame, pieces, holes and depths. */
public final class SheetTest {
    private static final int UNKNOWN = -1, OUTSIDE = -2, NONE = -6;
    private static final int LOW = Integer.MIN_VALUE, HIGH = Integer.MAX_VALUE;

    // Two rings of open cells; the piece between them has depth 2, the island within depth 4.
    private static final String[] RINGS = {
        ".........",
        ".#######.",
        ".#.....#.",
        ".#.###.#.",
        ".#.#.#.#.",
        ".#.###.#.",
        ".#.....#.",
        ".#######.",
        "........."};

    public static void main(String[] args) {
        sizes();
        sizesAtFirst();
        refusedSizes();
        for (int wide = 3; wide <= 10; wide++) {
            for (int high = 3; high <= 10; high++) {
                cellsOfSheet(wide, high);
                emptyAndFull(wide, high);
                noWrapAround(wide, high);
                oneClosedCell(wide, high);
                closedBesideBorder(wide, high);
            }
        }
        sides();
        layers();
        frameIsClosed();
        oneFramePiece();
        orderOfIslands();
        firstCellOfIsland();
        orderOfHoles();
        firstCellOfHole();
        mostIslands();
        depthCountsTheFirstStep();
        depthFromAnySide();
        depthByAdjacentCells();
        depthThroughClosedBorder();
        Check.finish();
    }

    private static StencilCuts sheetOf(int wide, int high) {
        StencilCuts x = new StencilCuts();
        x.sheet(wide, high);
        return x;
    }

    private static void sizes() {
        Check.sentence("W and H are 3 to 10");
        for (int wide = 3; wide <= 10; wide++) {
            for (int high = 3; high <= 10; high++) {
                StencilCuts x = new StencilCuts();
                String name = wide + " by " + high;
                Check.due("sheet " + name, x.sheet(wide, high), wide * high);
                Check.due("W " + name, x.count(0), wide);
                Check.due("H " + name, x.count(1), high);
            }
        }
    }

    private static void sizesAtFirst() {
        Check.sentence("W and H are 3 to 10, and 8 each at first.");
        StencilCuts x = new StencilCuts();
        Check.due("W", x.count(0), 8);
        Check.due("H", x.count(1), 8);
        Check.due("the last cell", x.cut(0, 7, 7, 1), 1);
        Check.due("beyond it in x", x.cut(0, 8, 7, 1), OUTSIDE);
        Check.due("beyond it in y", x.cut(0, 7, 8, 1), OUTSIDE);
    }

    private static void refusedSizes() {
        Check.sentence("Returns the number of cells; OUTSIDE if an argument is out of range.");
        for (int good = 3; good <= 10; good++) {
            for (int bad : new int[] {LOW, -8, -1, 0, 1, 2, 11, 12, 20, HIGH}) {
                StencilCuts x = sheetOf(9, 4);
                x.cut(1, 8, 3, 1);
                x.wish(8, 3, 2);
                Check.due("sheet " + good + ", " + bad, x.sheet(good, bad), OUTSIDE);
                Check.due("sheet " + bad + ", " + good, x.sheet(bad, good), OUTSIDE);
                Check.due("sheet " + bad + ", " + bad, x.sheet(bad, bad), OUTSIDE);
                Check.due("W stays", x.count(0), 9);
                Check.due("H stays", x.count(1), 4);
                Check.due("the cell stays open", x.cell(1, 8, 3, 0), 1);
                Check.due("the wish stays", x.wish(8, 3, 0), 2);
            }
        }
    }

    private static void cellsOfSheet(int wide, int high) {
        Check.sentence("with x from 0 to W - 1 and y from 0 to H - 1");
        String name = " of " + wide + " by " + high;
        for (int[] corner : new int[][] {{0, 0}, {wide - 1, 0}, {0, high - 1}, {wide - 1, high - 1}}) {
            StencilCuts x = sheetOf(wide, high);
            Check.due("cut" + name, x.cut(3, corner[0], corner[1], 1), 1);
            Check.due("cell" + name, x.cell(3, corner[0], corner[1], 0), 1);
            Check.due("row" + name, x.row(3, corner[1], 0), 0);
            Check.due("wish" + name, x.wish(corner[0], corner[1], 4), 0);
            Check.due("paint" + name, x.paint(corner[0], corner[1]), 0);
        }
        int[][] beyond = {{wide, 0}, {0, high}, {wide, high - 1}, {wide - 1, high}, {-1, 0}, {0, -1},
            {LOW, 0}, {0, LOW}, {HIGH, 0}, {0, HIGH}, {wide + 9, 0}, {0, high + 9}};
        StencilCuts x = sheetOf(wide, high);
        for (int[] cell : beyond) {
            String at = " (" + cell[0] + ", " + cell[1] + ")" + name;
            Check.due("cut" + at, x.cut(0, cell[0], cell[1], 1), OUTSIDE);
            Check.due("wish" + at, x.wish(cell[0], cell[1], 1), OUTSIDE);
            Check.due("paint" + at, x.paint(cell[0], cell[1]), OUTSIDE);
            for (int what = 0; what < 4; what++) {
                Check.due("cell" + at, x.cell(0, cell[0], cell[1], what), OUTSIDE);
            }
            if (cell[1] < 0 || cell[1] >= high) {
                Check.due("row" + at, x.row(0, cell[1], 1), OUTSIDE);
            }
        }
        Check.due("nothing was opened" + name, x.count(2), 0);
        Check.due("nothing was wished" + name, x.count(3), 0);
    }

    private static void emptyAndFull(int wide, int high) {
        Check.sentence("all are closed at first");
        String name = wide + " by " + high;
        StencilCuts empty = sheetOf(wide, high);
        Due.layer("empty " + name, empty, 0, 0, 0, 0, 0, 0, 0, 0, 0);
        Due.knife("empty " + name, empty, 0, 0, 0, 0);
        Check.due("empty " + name + " island", empty.island(0, 0, 0), NONE);
        Check.due("empty " + name + " bridge", empty.bridge(0, 0, 0), NONE);
        Check.due("empty " + name + " loop", empty.loop(0, 0, 0), NONE);
        Check.due("empty " + name + " piece", empty.cell(0, wide - 1, high - 1, 1), NONE);

        Check.sentence("The holes are the maximal sets of open cells that are connected in the same way");
        StencilCuts full = Drawing.full(2, wide, high);
        Due.layer("full " + name, full, 2, wide * high, 0, 1, 0, 0, 0, 0, 0);
        Due.knife("full " + name, full, 2, 2 * (wide + high), 1, 0);
        Check.due("full " + name + " first cell", full.cell(2, 0, 0, 2), 0);
        Check.due("full " + name + " last cell", full.cell(2, wide - 1, high - 1, 2), 0);
        Check.due("full " + name + " island", full.island(2, 0, 0), NONE);
        Check.due("full " + name + " bridge", full.bridge(2, 0, 0), NONE);
        Due.loop("full " + name, full, 2, 0, 0, 2 * (wide + high), 0, 0);
        Check.due("full " + name + " other layer", full.layer(1, 0), 0);
    }

    /** The end of a row and the start of the next one are not adjacent, nor are columns' ends. */
    private static void noWrapAround(int wide, int high) {
        Check.sentence("Two cells are adjacent if they have a side in common.");
        String name = wide + " by " + high;
        for (int y = 1; y < high; y++) {
            StencilCuts rows = sheetOf(wide, high);
            rows.cut(0, wide - 1, y - 1, 1);
            rows.cut(0, 0, y, 1);
            Check.due("holes at the ends of rows, " + name, rows.layer(0, 2), 2);
            Check.due("loops at the ends of rows, " + name, rows.knife(0, 1), 2);
            Check.due("edges at the ends of rows, " + name, rows.knife(0, 0), 8);
        }
        for (int x = 1; x < wide; x++) {
            StencilCuts columns = sheetOf(wide, high);
            columns.cut(0, x - 1, high - 1, 1);
            columns.cut(0, x, 0, 1);
            Check.due("holes at the ends of columns, " + name, columns.layer(0, 2), 2);
            Check.due("loops at the ends of columns, " + name, columns.knife(0, 1), 2);
            Check.due("edges at the ends of columns, " + name, columns.knife(0, 0), 8);
        }
        StencilCuts corners = sheetOf(wide, high);
        corners.cut(0, 0, 0, 1);
        corners.cut(0, wide - 1, 0, 1);
        corners.cut(0, 0, high - 1, 1);
        corners.cut(0, wide - 1, high - 1, 1);
        Check.due("holes in the corners, " + name, corners.layer(0, 2), 4);
        Check.due("loops in the corners, " + name, corners.knife(0, 1), 4);
    }

    /** All cells but one are open: it is an island if it is not at the border. */
    private static void oneClosedCell(int wide, int high) {
        Check.sentence("(x is 0 or W - 1, or y is 0 or H - 1) form one piece together with the frame");
        for (int y = 0; y < high; y++) {
            for (int x = 0; x < wide; x++) {
                boolean border = x == 0 || x == wide - 1 || y == 0 || y == high - 1;
                StencilCuts full = Drawing.full(1, wide, high);
                full.cut(1, x, y, 0);
                String name = "(" + x + ", " + y + ") of " + wide + " by " + high;
                Check.due("islands, " + name, full.layer(1, 1), border ? 0 : 1);
                Check.due("its island, " + name, full.cell(1, x, y, 1), border ? NONE : 0);
                Check.due("runs, " + name, full.layer(1, 7), border ? 0 : 4);
                Check.due("bridges, " + name, full.layer(1, 3), border ? 0 : 1);
                if (!border) {
                    Due.island(name, full, 1, 0, 1, 2, x, y, 0, 1);
                }
            }
        }
    }

    /** An inner cell that is connected with one at the border is no island. */
    private static void closedBesideBorder(int wide, int high) {
        Check.sentence("sets that contain a cell at the border of the sheet");
        int x = (wide - 1) / 2;
        int y = (high - 1) / 2;
        for (int[] step : new int[][] {{-1, 0}, {1, 0}, {0, -1}, {0, 1}}) {
            StencilCuts full = Drawing.full(0, wide, high);
            int atX = x;
            int atY = y;
            while (atX >= 0 && atX < wide && atY >= 0 && atY < high) {
                full.cut(0, atX, atY, 0);
                Check.due("islands", full.layer(0, 1),
                        atX == 0 || atX == wide - 1 || atY == 0 || atY == high - 1 ? 0 : 1);
                atX += step[0];
                atY += step[1];
            }
            Check.due("its island", full.cell(0, x, y, 1), NONE);
        }
    }

    private static void sides() {
        Check.sentence("Two cells are adjacent if they have a side in common.");
        Check.due("open cells with a side", Drawing.of(0, "...", "##.", "...").layer(0, 2), 1);
        Check.due("and one above the other", Drawing.of(0, ".#.", ".#.", "...").layer(0, 2), 1);
        Check.due("open cells with a corner", Drawing.of(0, "#..", ".#.", "...").layer(0, 2), 2);
        Check.due("and with the other corner", Drawing.of(0, "..#", ".#.", "...").layer(0, 2), 2);
        Check.due("closed cells with a side", Drawing.of(0, "####", "#..#", "####").layer(0, 1), 1);
        Check.due("closed cells with a corner",
                Drawing.of(0, "####", "#.##", "##.#", "####").layer(0, 1), 2);
        Check.due("and with the other corner",
                Drawing.of(0, "####", "##.#", "#.##", "####").layer(0, 1), 2);
        Check.due("a closed cell with a corner of one at the border",
                Drawing.of(0, ".###", "#.##", "####", "####").layer(0, 1), 1);
    }

    private static void layers() {
        Check.sentence("There are four layers, 0 to 3; in each of them each cell is open or closed");
        StencilCuts x = new StencilCuts();
        for (int layer = 0; layer < 4; layer++) {
            Check.due("cut", x.cut(layer, layer, 0, 1), 1);
        }
        for (int layer = 0; layer < 4; layer++) {
            for (int column = 0; column < 8; column++) {
                Check.due("cell", x.cell(layer, column, 0, 0), column == layer ? 1 : 0);
            }
        }
        Check.due("the last row of a layer is not the first one of the next", x.row(0, 7, 255), 9);
        Check.due("which stays", x.cell(1, 0, 0, 0), 0);
        Check.due("before the first layer", x.layer(-1, 0), UNKNOWN);
        Check.due("after the last layer", x.layer(4, 0), UNKNOWN);
    }

    private static void frameIsClosed() {
        Check.sentence("The frame is everything beyond the sheet; it counts as closed.");
        StencilCuts x = sheetOf(3, 3);
        x.cut(0, 2, 2, 1);
        Due.knife("the last cell has four edges,", x, 0, 4, 1, 4);
        x.row(0, 0, 7);
        Due.knife("a whole row has eight,", x, 0, 12, 2, 4);
        Check.due("the frame is no hole", x.layer(0, 2), 2);
        // On a smaller sheet, what was open beyond it before counts as closed, too.
        StencilCuts smaller = Drawing.full(0, 10, 10);
        smaller.sheet(4, 3);
        Drawing.add(smaller, 0, "####", "#.##", "####");
        Due.layer("smaller", smaller, 0, 11, 1, 1, 1, 1, 0, 1, 4);
        Due.knife("smaller", smaller, 0, 18, 1, 0);
    }

    private static void oneFramePiece() {
        Check.sentence("where all cells of such sets that contain a cell at the border of the sheet"
                + " (x is 0 or W - 1, or y is 0 or H - 1) form one piece together with the frame");
        // Between two closed cells at the border is no run, nor between one and the frame.
        StencilCuts x = Drawing.of(0, "##.##", "#####", ".###.", "#####", "##.##");
        Due.layer("four sides", x, 0, 21, 0, 1, 0, 0, 0, 0, 0);
        // The closed cells in the corners are one piece, though each one is a set of its own.
        StencilCuts corners = Drawing.of(0, ".#.", "###", ".#.");
        Due.layer("corners", corners, 0, 5, 0, 1, 0, 0, 0, 0, 0);
    }

    private static void orderOfIslands() {
        Check.sentence("The order of cells is by ascending y, then by ascending x.");
        StencilCuts x = Drawing.of(0, "#######", "####.##", "#.#####", "#####.#", "###.###", "#######");
        Due.island("by y", x, 0, 0, 1, 2, 4, 1);
        Due.island("by y", x, 0, 1, 1, 2, 1, 2);
        Due.island("by y", x, 0, 2, 1, 2, 5, 3);
        Due.island("by y", x, 0, 3, 1, 2, 3, 4);
        StencilCuts row = Drawing.of(0, "#######", "#.#.#.#", "#######");
        for (int i = 0; i < 3; i++) {
            Check.due("by x", row.island(0, i, 2), 2 * i + 1);
            Check.due("its cell", row.cell(0, 2 * i + 1, 1, 1), i);
        }
        Check.due("no other", row.island(0, 3, 2), NONE);
    }

    private static void firstCellOfIsland() {
        Check.sentence("they are numbered from 0 in the order of their first cells");
        // The first cell of the hook is at its right end; the other island has cells left of it.
        StencilCuts x = Drawing.of(0,
                "########",
                "#####.##",
                "##.##.##",
                "#..##.##",
                "####..##",
                "########");
        Due.island("hook", x, 0, 0, 5, 2, 5, 1);
        Due.island("other", x, 0, 1, 3, 2, 2, 2);
        Check.due("the hook's last cell", x.cell(0, 4, 4, 1), 0);
        Check.due("the other's left cell", x.cell(0, 1, 3, 1), 1);
    }

    private static void orderOfHoles() {
        Check.sentence("The holes are the maximal sets of open cells that are connected in the same"
                + " way, numbered from 0 in the order of their first cells.");
        StencilCuts x = Drawing.of(0, "....#", ".#...", "...#.", "#....");
        Check.due("holes", x.layer(0, 2), 4);
        Check.due("hole 0", x.cell(0, 4, 0, 2), 0);
        Check.due("hole 1", x.cell(0, 1, 1, 2), 1);
        Check.due("hole 2", x.cell(0, 3, 2, 2), 2);
        Check.due("hole 3", x.cell(0, 0, 3, 2), 3);
        Check.due("no hole", x.cell(0, 0, 0, 2), NONE);
    }

    private static void firstCellOfHole() {
        Check.sentence("numbered from 0 in the order of their first cells");
        StencilCuts x = Drawing.of(0, "....#", ".#..#", ".##.#", "....#", "#####");
        Check.due("holes", x.layer(0, 2), 2);
        Check.due("the one with (4, 0) is first", x.cell(0, 0, 4, 2), 0);
        Check.due("the one with (1, 1) is next", x.cell(0, 2, 2, 2), 1);
        // At the border they are not one hole with the frame, which is closed.
        StencilCuts border = Drawing.of(0, "#.#", "...", "#.#");
        Check.due("holes at the border", border.layer(0, 2), 4);
    }

    private static void mostIslands() {
        Check.sentence("The other pieces are islands");
        // Chequered, 10 by 10: half of the 64 inner cells are islands, half of all are holes.
        for (int odd = 0; odd < 2; odd++) {
            StencilCuts x = sheetOf(10, 10);
            for (int y = 0; y < 10; y++) {
                x.row(3, y, (y + odd) % 2 == 0 ? 0b0101010101 : 0b1010101010);
            }
            Check.due("open cells", x.layer(3, 0), 50);
            Check.due("islands", x.layer(3, 1), 32);
            Check.due("holes", x.layer(3, 2), 50);
            Check.due("the last island", x.island(3, 31, 0), 1);
            Check.due("its y", x.island(3, 31, 3), 8);
            Check.due("no island more", x.island(3, 32, 0), NONE);
            Check.due("the last hole", x.cell(3, 9 - odd, 9, 2), 49);
            // Each of the 32 inner open cells is a run in both directions; of the 18 others at
            // the border, 16 are a run from the frame or a closed cell at it to an island.
            Check.due("runs", x.layer(3, 7), 80);
        }
    }

    private static void depthCountsTheFirstStep() {
        Check.sentence("(the step from the frame to an open cell is a change, too)");
        Check.due("open border", Drawing.of(0, "###", "#.#", "###").island(0, 0, 1), 2);
        Check.due("closed border",
                Drawing.of(0, ".....", ".###.", ".#.#.", ".###.", ".....").island(0, 0, 1), 2);
        StencilCuts x = Drawing.of(0,
                "#######", "#.....#", "#.###.#", "#.#.#.#", "#.###.#", "#.....#", "#######");
        Check.due("open border, the outer one", x.island(0, 0, 1), 2);
        Check.due("open border, the inner one", x.island(0, 1, 1), 4);
    }

    private static void depthFromAnySide() {
        Check.sentence("on any path that begins in the frame, enters the sheet at any cell at its border");
        Check.due("no gap", Drawing.of(0, RINGS).island(0, 1, 1), 4);
        for (int[] gap : new int[][] {{4, 2}, {2, 4}, {6, 4}, {4, 6}, {2, 5}, {5, 6}}) {
            StencilCuts x = Drawing.of(0, RINGS);
            x.cut(0, gap[0], gap[1], 1);
            Check.due("a gap at " + gap[0] + ", " + gap[1], x.island(0, 1, 1), 2);
            Check.due("around it", x.island(0, 0, 1), 2);
        }
        // Closed cells through the outer ring make the piece between the rings the frame's.
        for (int[] way : new int[][] {{4, 1}, {1, 4}, {7, 4}, {4, 7}}) {
            StencilCuts x = Drawing.of(0, RINGS);
            x.cut(0, way[0], way[1], 0);
            Check.due("a way at " + way[0] + ", " + way[1], x.island(0, 0, 1), 2);
            Check.due("one island", x.layer(0, 1), 1);
        }
    }

    private static void depthByAdjacentCells() {
        Check.sentence("goes from cell to adjacent cell, and ends at a cell of the island");
        // An opened corner of the piece touches the inner ring at a corner alone.
        for (int[] corner : new int[][] {{2, 2}, {6, 2}, {2, 6}, {6, 6}}) {
            StencilCuts x = Drawing.of(0, RINGS);
            x.cut(0, corner[0], corner[1], 1);
            Check.due("corner " + corner[0] + ", " + corner[1], x.island(0, 1, 1), 4);
        }
    }

    private static void depthThroughClosedBorder() {
        Check.sentence("The depth of an island is the smallest number of changes between open and"
                + " closed on any path that begins in the frame");
        // From the closed border through one ring: the number of cells on the path is nothing.
        StencilCuts wide = Drawing.of(0,
                "..........",
                "..........",
                "..######..",
                "..######..",
                "..##..##..",
                "..##..##..",
                "..######..",
                "..######..",
                "..........",
                "..........");
        Due.island("a thick ring", wide, 0, 0, 4, 2, 4, 4);
    }
}
