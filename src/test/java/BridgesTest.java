/** The sentences under BRIDGES: runs, their order, ties, touching, and what the bridges leave. */
public final class BridgesTest {
    private static final int UNKNOWN = -1, OUTSIDE = -2, NONE = -6;
    private static final int LOW = Integer.MIN_VALUE, HIGH = Integer.MAX_VALUE;

    // Four islands around (2, 2), through which two runs of one cell go.
    private static final String[] CROSS = {
        "#####",
        "##.##",
        "#.#.#",
        "##.##",
        "#####"};

    // The islands at (2, 3) and (4, 3) are tied to each other alone: their other runs touch the
    // bridges at (0, 4), (6, 4), (3, 0) and (3, 6).
    private static final String[] ADRIFT = {
        "#####.#",
        "###.###",
        "#######",
        "##.#.##",
        "#.###.#",
        "###.##.",
        "#####.#"};

    public static void main(String[] args) {
        noIslandNoRun();
        endsInTheFrame();
        bothEndsInTheFrame();
        bothEndsInOneIsland();
        wholeSuccession();
        for (int wide = 3; wide <= 10; wide++) {
            for (int high = 3; high <= 10; high++) {
                shortestOfFour(wide, high);
            }
        }
        fewestCellsFirst();
        horizontalFirst();
        firstCellsByRows();
        tiedOnce();
        tiedByOthers();
        sharedCell();
        touching();
        touchingAtCorner();
        numbersOfBridges();
        chosenInOrder();
        propertiesOfLayer();
        propertiesOfIsland();
        propertiesOfBridge();
        looseAlone();
        looseTogether();
        lowerBoundBelow();
        lowerBoundAbove();
        bridgedLayer();
        islandsAndHolesStay();
        bridgesOfIsland();
        noSuchIsland();
        noSuchBridge();
        whatOfLayer();
        mostBridges();
        Check.finish();
    }

    private static void noIslandNoRun() {
        Check.sentence("are closed and belong to different pieces");
        Due.layer("closed", new StencilCuts(), 0, 0, 0, 0, 0, 0, 0, 0, 0);
        Due.layer("full", Drawing.full(0, 10, 10), 0, 100, 0, 1, 0, 0, 0, 0, 0);
        Due.layer("no island", Drawing.of(0, "#.#", "...", "#.#"), 0, 4, 0, 4, 0, 0, 0, 0, 0);
    }

    private static void endsInTheFrame() {
        Check.sentence("the cells directly before the first one and directly after the last one"
                + " (lower x or y is before), which can be in the frame");
        Due.bridge("left", Drawing.of(0, "####", "####", "#.##", "####", "####"), 0, 0,
                0, 2, 1, 0, NONE, 0);
        Due.bridge("right", Drawing.of(0, "####", "####", "##.#", "####", "####"), 0, 0,
                3, 2, 1, 0, 0, NONE);
        Due.bridge("top", Drawing.of(0, "#####", "##.##", "#####", "#####"), 0, 0,
                2, 0, 1, 1, NONE, 0);
        Due.bridge("bottom", Drawing.of(0, "#####", "#####", "##.##", "#####"), 0, 0,
                2, 3, 1, 1, 0, NONE);
        // A closed cell at the border is the same end as the frame.
        Due.bridge("border", Drawing.of(0, "#####", "#####", ".#.##", "#####", "#####"), 0, 0,
                1, 2, 1, 0, NONE, 0);
        StencilCuts islands = Drawing.of(0, "#####", "#.#.#", "#####");
        Due.bridge("from the frame", islands, 0, 0, 0, 1, 1, 0, NONE, 0);
        Due.bridge("between islands", islands, 0, 1, 2, 1, 1, 0, 0, 1);
    }

    private static void bothEndsInTheFrame() {
        Check.sentence("are closed and belong to different pieces; these pieces are its ends");
        Due.layer("a whole row", Drawing.of(0, "...", "###", "..."), 0, 3, 0, 1, 0, 0, 0, 0, 0);
        Due.layer("a whole column", Drawing.of(0, ".#.", ".#.", ".#."), 0, 3, 0, 1, 0, 0, 0, 0, 0);
        Due.layer("from the frame to the border", Drawing.of(0, "...", "##.", "..."), 0,
                2, 0, 1, 0, 0, 0, 0, 0);
        Due.layer("from border to border", Drawing.of(0, "....", ".##.", "...."), 0,
                2, 0, 1, 0, 0, 0, 0, 0);
        // The island has four runs; the six whole rows and columns beside it are none.
        Due.layer("beside an island", Drawing.of(0, "####", "#.##", "####", "####"), 0,
                15, 1, 1, 1, 1, 0, 1, 4);
    }

    private static void bothEndsInOneIsland() {
        Check.sentence("are closed and belong to different pieces; these pieces are its ends");
        // The gap at (3, 2) has the same island on both sides; as a part of (3, 1), (3, 2) it
        // leads to the frame.
        StencilCuts x = Drawing.of(0,
                ".......",
                ".#####.",
                ".#.#.#.",
                ".#...#.",
                ".#####.",
                ".......");
        Due.layer("horizontal gap", x, 0, 15, 1, 1, 1, 1, 0, 1, 10);
        StencilCuts y = Drawing.of(0,
                "......",
                ".####.",
                ".#..#.",
                ".##.#.",
                ".#..#.",
                ".####.",
                "......");
        Due.layer("vertical gap", y, 0, 15, 1, 1, 1, 1, 0, 1, 10);
    }

    private static void wholeSuccession() {
        Check.sentence("A run of a layer consists of one or more successive open cells in a row"
                + " (horizontal) or in a column (vertical)");
        // Lengths 4, 5, 4 and 5 around (4, 4): no part of them is a run of its own.
        StencilCuts x = Drawing.full(0, 10, 10);
        x.cut(0, 4, 4, 0);
        Check.due("runs", x.layer(0, 7), 4);
        Due.bridge("the longest way to the frame", x, 0, 0, 0, 4, 4, 0, NONE, 0);
        for (int column = 0; column < 10; column++) {
            Check.due("cell " + column, x.cell(0, column, 4, 3), column < 4 ? 0 : NONE);
        }
        Check.due("cells", x.layer(0, 4), 4);
    }

    /** One closed cell on an open sheet: which of the four runs to the frame is the bridge? */
    private static void shortestOfFour(int wide, int high) {
        Check.sentence("Runs are ordered by their number of cells, the fewest first; then horizontal"
                + " ones come before vertical ones; then by their first cells.");
        for (int y = 1; y < high - 1; y++) {
            for (int x = 1; x < wide - 1; x++) {
                StencilCuts full = Drawing.full(2, wide, high);
                full.cut(2, x, y, 0);
                int right = wide - 1 - x;
                int below = high - 1 - y;
                int least = Math.min(Math.min(x, right), Math.min(y, below));
                String name = "(" + x + ", " + y + ") of " + wide + " by " + high;
                if (x == least) {
                    Due.bridge(name, full, 2, 0, 0, y, least, 0, NONE, 0);
                } else if (right == least) {
                    Due.bridge(name, full, 2, 0, x + 1, y, least, 0, 0, NONE);
                } else if (y == least) {
                    Due.bridge(name, full, 2, 0, x, 0, least, 1, NONE, 0);
                } else {
                    Due.bridge(name, full, 2, 0, x, y + 1, least, 1, 0, NONE);
                }
                Due.layer(name, full, 2, wide * high - 1, 1, 1, 1, least, 0, least, 4);
                Check.due(name + " no other", full.bridge(2, 1, 0), NONE);
            }
        }
    }

    private static void fewestCellsFirst() {
        Check.sentence("Runs are ordered by their number of cells, the fewest first");
        // The last of all cells is the shortest run; vertical, and after all others by its place.
        Due.bridge("below", Drawing.of(0, "#######", "#######", "#######", "###.###", "#######"),
                0, 0, 3, 4, 1, 1, 0, NONE);
        // The island at (2, 2) has runs of two cells; that at (5, 3) has one of one cell below.
        StencilCuts two = Drawing.of(0, "########", "########", "##.#####", "#####.##", "########");
        Due.bridge("two islands", two, 0, 0, 5, 4, 1, 1, 1, NONE);
        Due.bridge("two islands", two, 0, 1, 0, 2, 2, 0, NONE, 0);
    }

    private static void horizontalFirst() {
        Check.sentence("then horizontal ones come before vertical ones");
        // The vertical run at (1, 0) has an earlier first cell.
        Due.bridge("left", Drawing.of(0, "###", "#.#", "###"), 0, 0, 0, 1, 1, 0, NONE, 0);
        // The vertical run at (3, 0) has an earlier first cell than the run at the right.
        Due.bridge("right", Drawing.of(0, "#####", "###.#", "#####"), 0, 0, 4, 1, 1, 0, 0, NONE);
    }

    private static void firstCellsByRows() {
        Check.sentence("then by their first cells");
        Due.bridge("horizontal, by y before x", Drawing.of(0,
                ".......",
                ".#####.",
                ".##..#.",
                ".#..##.",
                ".#####.",
                "......."), 0, 0, 5, 2, 1, 0, 0, NONE);
        Due.bridge("vertical, by y before x", Drawing.of(0,
                "#######",
                "###..##",
                "##..###",
                "#######"), 0, 0, 3, 0, 1, 1, NONE, 0);
        Due.bridge("vertical, by x in one row", Drawing.of(0,
                "######",
                "##..##",
                "######",
                "######"), 0, 0, 2, 0, 1, 1, NONE, 0);
        Due.bridge("horizontal, by x in one row", Drawing.of(0,
                "####",
                "#..#",
                "####"), 0, 0, 0, 1, 1, 0, NONE, 0);
    }

    private static void tiedOnce() {
        Check.sentence("A run becomes a bridge if its ends are not tied yet");
        Due.layer("four runs as short", Drawing.of(0, "###", "#.#", "###"), 0, 8, 1, 1, 1, 1, 0, 1, 4);
        // Two islands with two runs between them: the second one would tie what is tied.
        StencilCuts x = Drawing.of(0, "#######", "##.#.##", "##.#.##", "#######");
        Due.layer("two between", x, 0, 24, 2, 1, 2, 2, 0, 2, 10);
        Due.bridge("two between", x, 0, 0, 3, 1, 1, 0, 0, 1);
        Due.bridge("two between", x, 0, 1, 2, 0, 1, 1, NONE, 0);
    }

    private static void tiedByOthers() {
        Check.sentence("A bridge ties its ends; pieces that are tied to the same piece are tied to"
                + " each other.");
        // A chain from the frame: the last island is tied to it by all the others.
        StencilCuts chain = Drawing.of(0, "##########", "#.#.#.#.##", "##########");
        Due.layer("chain", chain, 0, 26, 4, 1, 4, 4, 0, 4, 13);
        for (int b = 0; b < 4; b++) {
            Due.bridge("chain", chain, 0, b, 2 * b, 1, 1, 0, b - 1 < 0 ? NONE : b - 1, b);
            Check.due("chain, loose " + b, chain.island(0, b, 4), 0);
        }
        // Two chains grow from both sides, and are tied by the frame before they meet.
        StencilCuts sides = Drawing.of(0, "##########", "#.##..##.#", "##########");
        Due.layer("sides", sides, 0, 26, 3, 1, 3, 3, 0, 3, 12);
    }

    private static void sharedCell() {
        Check.sentence("none of its cells belongs to a bridge chosen before");
        StencilCuts x = Drawing.of(0, CROSS);
        Due.layer("cross", x, 0, 21, 4, 2, 4, 4, 0, 4, 14);
        Due.bridge("cross", x, 0, 0, 0, 2, 1, 0, NONE, 1);
        Due.bridge("cross", x, 0, 1, 2, 2, 1, 0, 1, 2);
        Due.bridge("cross", x, 0, 2, 2, 0, 1, 1, NONE, 0);
        Due.bridge("cross", x, 0, 3, 2, 4, 1, 1, 3, NONE);
        Check.due("the cell that both want", x.cell(0, 2, 2, 3), 1);
    }

    private static void touching() {
        Check.sentence("or is adjacent to a cell of such a bridge");
        // All three islands have their shortest runs at the left, one above the other.
        StencilCuts x = Drawing.of(0, "######", "######", "#.####", "##.###", "#.####", "######", "######");
        Due.bridge("below", x, 0, 0, 0, 2, 1, 0, NONE, 0);
        Due.bridge("below", x, 0, 1, 0, 4, 1, 0, NONE, 2);
        Check.due("(0, 3), (1, 3) touch both", x.cell(0, 0, 3, 3), NONE);
        Due.bridge("below", x, 0, 2, 3, 3, 3, 0, 1, NONE);
        Due.layer("below", x, 0, 39, 3, 1, 3, 5, 0, 4, 11);
        // The vertical run (3, 0), (3, 1) is beside the bridge (2, 0); one of three cells is taken.
        StencilCuts y = Drawing.of(0, "#######", "##.####", "###.###", "#######", "#######", "#######");
        Due.bridge("beside", y, 0, 0, 2, 0, 1, 1, NONE, 0);
        Due.bridge("beside", y, 0, 1, 0, 2, 3, 0, NONE, 1);
        Due.layer("beside", y, 0, 40, 2, 1, 2, 4, 0, 3, 8);
    }

    private static void touchingAtCorner() {
        Check.sentence("or is adjacent to a cell of such a bridge");
        // (1, 1) and (2, 2) have a corner in common, but no side.
        StencilCuts x = Drawing.of(0, "#####", ".#.##", "#####", "##.##", "#####");
        Due.layer("corner", x, 0, 22, 2, 1, 2, 2, 0, 2, 7);
        Due.bridge("corner", x, 0, 0, 1, 1, 1, 0, NONE, 0);
        Due.bridge("corner", x, 0, 1, 2, 2, 1, 1, 0, 1);
    }

    private static void numbersOfBridges() {
        Check.sentence("Bridges are numbered from 0 as they are chosen.");
        StencilCuts x = Drawing.of(0, CROSS);
        int[][] cells = {{0, 2}, {2, 2}, {2, 0}, {2, 4}};
        for (int b = 0; b < 4; b++) {
            Check.due("bridge at " + cells[b][0] + ", " + cells[b][1],
                    x.cell(0, cells[b][0], cells[b][1], 3), b);
        }
        Check.due("(4, 2) is none", x.cell(0, 4, 2, 3), NONE);
    }

    private static void chosenInOrder() {
        Check.sentence("The bridges of a layer are chosen from the runs in this order.");
        // One cell, vertical; then two and three cells, horizontal.
        StencilCuts x = Drawing.of(0,
                "##########",
                "###.######",
                "##########",
                "##.######.",
                "#####.###.",
                "##########",
                "##########",
                "##########");
        Due.bridge("first", x, 0, 0, 3, 0, 1, 1, NONE, 0);
        Due.bridge("second", x, 0, 1, 0, 3, 2, 0, NONE, 1);
        Due.bridge("third", x, 0, 2, 6, 4, 3, 0, 2, NONE);
        Due.layer("all", x, 0, 75, 3, 1, 3, 6, 0, 6, 12);
    }

    private static void propertiesOfLayer() {
        Check.sentence("0 open cells (bridges do not matter), 1 islands, 2 holes, 3 bridges, 4 cells of"
                + " bridges, 5 loose islands, 6 the lower bound, 7 runs");
        Due.layer("cross", Drawing.of(0, CROSS), 0, 21, 4, 2, 4, 4, 0, 4, 14);
        Due.layer("adrift", Drawing.of(3, ADRIFT), 3, 40, 6, 2, 5, 5, 2, 7, 21);
        Due.layer("one long bridge", Drawing.of(1, "#####", "#####", "##.##", "#####", "#####"), 1,
                24, 1, 1, 1, 2, 0, 2, 4);
    }

    private static void propertiesOfIsland() {
        Check.sentence("0 the number of its cells, 1 its depth, 2 x and 3 y of its first cell, 4 whether"
                + " it is loose (1 or 0), 5 the number of bridges of which it is an end");
        StencilCuts x = Drawing.of(0, ADRIFT);
        Due.island("tied", x, 0, 0, 1, 2, 3, 1, 0, 1);
        Due.island("loose", x, 0, 1, 1, 2, 2, 3, 1, 1);
        Due.island("tied", x, 0, 5, 1, 2, 3, 5, 0, 1);
        Due.island("large", Drawing.of(0, "##########", "#........#", "#........#", "##########"), 0, 0,
                16, 2, 1, 1, 0, 1);
    }

    private static void propertiesOfBridge() {
        Check.sentence("0 x and 1 y of its first cell, 2 the number of its cells, 3 whether it is vertical"
                + " (1 or 0), 4 the end before its first cell, 5 the end after its last cell (4 and 5: the"
                + " island, or NONE for the frame)");
        StencilCuts x = Drawing.of(0, "####", "####", "#..#", "#..#", "####", "####");
        Due.bridge("left", x, 0, 0, 0, 2, 1, 0, NONE, 0);
        // The bridge ends at a closed cell that is connected with the border: that is the frame's.
        StencilCuts inner = Drawing.of(0, "#######", "#######", "..#.###", "#######", "#######");
        Due.bridge("from a cell of the frame's piece", inner, 0, 0, 2, 2, 1, 0, NONE, 0);
        StencilCuts after = Drawing.of(0, "#######", "#######", "###.#..", "#######", "#######");
        Due.bridge("to a cell of the frame's piece", after, 0, 0, 4, 2, 1, 0, 0, NONE);
    }

    private static void looseAlone() {
        Check.sentence("An island is loose if it is not tied to the frame by the bridges.");
        StencilCuts x = Drawing.of(0, ".##.##", "#..#.#", "###.##", "##.#.#", "#####.");
        Due.layer("one", x, 0, 21, 5, 4, 4, 4, 1, 5, 18);
        for (int i = 0; i < 5; i++) {
            Check.due("loose " + i, x.island(0, i, 4), i == 2 ? 1 : 0);
        }
        Check.due("it has no bridge", x.island(0, 2, 5), 0);
        Check.due("layers with loose islands", x.count(4), 1);
    }

    private static void looseTogether() {
        Check.sentence("An island is loose if it is not tied to the frame by the bridges.");
        StencilCuts x = Drawing.of(0, ADRIFT);
        Due.layer("two", x, 0, 40, 6, 2, 5, 5, 2, 7, 21);
        Due.bridge("two", x, 0, 0, 3, 3, 1, 0, 1, 2);
        for (int i = 0; i < 6; i++) {
            Check.due("loose " + i, x.island(0, i, 4), i == 1 || i == 2 ? 1 : 0);
            Check.due("bridges " + i, x.island(0, i, 5), 1);
        }
        Check.due("layers with loose islands", x.count(4), 1);
    }

    private static void lowerBoundBelow() {
        Check.sentence("The lower bound of a layer is the sum of the numbers of cells of the runs"
                + " that would be chosen in the same way if bridges were allowed to touch and cross"
                + " one another.");
        // The run at (2, 1) would cross the first bridge, so one with two cells is taken.
        StencilCuts x = Drawing.of(0, "##.#.", "..#.#", "##.##", ".####", "###.#");
        Due.layer("crossing", x, 0, 17, 2, 4, 2, 3, 0, 2, 8);
        Due.bridge("crossing", x, 0, 1, 0, 2, 2, 0, NONE, 1);
    }

    private static void lowerBoundAbove() {
        Check.sentence("if bridges were allowed to touch and cross one another");
        // The loose islands have no bridge to the frame, but the bound counts one of two cells.
        StencilCuts x = Drawing.of(0, ADRIFT);
        Check.due("cells of bridges", x.layer(0, 4), 5);
        Check.due("lower bound", x.layer(0, 6), 7);
        Check.due("no island, no bound", Drawing.full(0, 3, 3).layer(0, 6), 0);
    }

    private static void bridgedLayer() {
        Check.sentence("The bridged layer is the layer in which all cells of bridges are closed and"
                + " everything else is as it is.");
        StencilCuts x = Drawing.of(0, "#####", "#####", "##.##", "#####", "#####");
        // 22 open cells are left of 24, with the slot (0, 2) to (2, 2) at the left.
        Due.knife("slot", x, 0, 26, 1, 0);
        for (int column = 0; column < 5; column++) {
            Check.due("colour " + column, x.paint(column, 2), column < 3 ? 0 : 1);
        }
        // Bridges of one layer do not close the cells of another.
        Drawing.add(x, 1, "#####", "#####", "#####", "#####", "#####");
        Check.due("colour of the other layer", x.paint(0, 2), 2);
        Due.knife("other layer", x, 1, 20, 1, 0);
    }

    private static void islandsAndHolesStay() {
        Check.sentence("The pieces of a layer are the maximal sets of closed cells that are connected"
                + " by steps between adjacent cells");
        // In the bridged layer there would be no island, and the ring would be open at one place.
        StencilCuts x = Drawing.of(0, "#####", ".#.##", "#####", "##.##", "#####");
        Check.due("islands", x.layer(0, 1), 2);
        Check.due("the tied one", x.cell(0, 2, 1, 1), 0);
        Check.due("the other one", x.cell(0, 2, 3, 1), 1);
        Check.due("a bridge's cell is open", x.cell(0, 1, 1, 0), 1);
        Check.due("is in no island", x.cell(0, 1, 1, 1), NONE);
        Check.due("and in the hole", x.cell(0, 1, 1, 2), 0);
        Check.due("open cells", x.layer(0, 0), 22);
        // Two bridges cut this hole in two, but it is one hole of the layer.
        StencilCuts ring = Drawing.of(0, "#####", "#.#.#", "#####");
        Check.due("holes", ring.layer(0, 2), 1);
        Check.due("above the bridges", ring.cell(0, 0, 0, 2), 0);
        Check.due("below the bridges", ring.cell(0, 0, 2, 2), 0);
    }

    private static void bridgesOfIsland() {
        Check.sentence("5 the number of bridges of which it is an end");
        StencilCuts x = Drawing.of(0, CROSS);
        Check.due("upper", x.island(0, 0, 5), 1);
        Check.due("left", x.island(0, 1, 5), 2);
        Check.due("right", x.island(0, 2, 5), 1);
        Check.due("lower", x.island(0, 3, 5), 1);
        // The first island is tied to the next one, to the frame and to the long island below.
        StencilCuts star = Drawing.of(0,
                "#########",
                "##.#.#.##",
                "#########",
                "##.....##",
                "#########",
                "#########");
        int[] due = {3, 2, 1, 1};
        for (int i = 0; i < 4; i++) {
            Check.due("star " + i, star.island(0, i, 5), due[i]);
        }
        Check.due("a loose island", Drawing.of(0, ".##.##", "#..#.#", "###.##", "##.#.#", "#####.")
                .island(0, 2, 5), 0);
    }

    private static void noSuchIsland() {
        Check.sentence("NONE if there is no such island (also if i is negative)");
        StencilCuts x = Drawing.of(0, CROSS);
        for (int what = 0; what < 6; what++) {
            for (int i : new int[] {LOW, -6, -2, -1, 4, 5, 100, HIGH}) {
                Check.due("island " + i + ", " + what, x.island(0, i, what), NONE);
            }
            Check.due("another layer, " + what, x.island(1, 0, what), NONE);
        }
        Check.due("the last one", x.island(0, 3, 0), 1);
        for (int what : new int[] {LOW, -1, 6, HIGH}) {
            Check.due("what " + what, x.island(0, 0, what), OUTSIDE);
        }
        Check.due("no layer", x.island(4, 0, 0), UNKNOWN);
    }

    private static void noSuchBridge() {
        Check.sentence("NONE if there is no such bridge (also if b is negative)");
        StencilCuts x = Drawing.of(0, CROSS);
        for (int what = 0; what < 6; what++) {
            for (int b : new int[] {LOW, -6, -2, -1, 4, 5, 100, HIGH}) {
                Check.due("bridge " + b + ", " + what, x.bridge(0, b, what), NONE);
            }
            Check.due("another layer, " + what, x.bridge(1, 0, what), NONE);
        }
        Check.due("the last one", x.bridge(0, 3, 2), 1);
        for (int what : new int[] {LOW, -1, 6, HIGH}) {
            Check.due("what " + what, x.bridge(0, 0, what), OUTSIDE);
        }
        Check.due("no layer", x.bridge(4, 0, 0), UNKNOWN);
    }

    private static void whatOfLayer() {
        Check.sentence("Returns the count; UNKNOWN if there is no such layer; OUTSIDE if what is out"
                + " of range.");
        StencilCuts x = Drawing.of(3, CROSS);
        for (int what : new int[] {LOW, -1, 8, 9, HIGH}) {
            Check.due("what " + what, x.layer(3, what), OUTSIDE);
        }
        for (int layer : new int[] {LOW, -1, 4, HIGH}) {
            Check.due("layer " + layer, x.layer(layer, 7), UNKNOWN);
        }
        Due.layer("the last layer", x, 3, 21, 4, 2, 4, 4, 0, 4, 14);
    }

    private static void mostBridges() {
        Check.sentence("Bridges are numbered from 0 as they are chosen.");
        // Islands at all odd places: each row is a chain from the frame at its left.
        StencilCuts x = new StencilCuts();
        x.sheet(10, 10);
        for (int y = 0; y < 10; y++) {
            x.row(0, y, y % 2 == 1 && y < 9 ? 0b1101010101 : 1023);
        }
        Due.layer("lattice", x, 0, 84, 16, 1, 16, 16, 0, 16, 40);
        Due.bridge("the last one", x, 0, 15, 6, 7, 1, 0, 14, 15);
        Check.due("no other", x.bridge(0, 16, 0), NONE);
    }
}
