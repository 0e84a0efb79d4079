/** Each promise of the document, with answers worked out by hand. */
public final class PromisesTest {
    private static final int UNKNOWN = -1, OUTSIDE = -2, STATE = -3, NONE = -6;
    private static final int LOW = Integer.MIN_VALUE, HIGH = Integer.MAX_VALUE;

    // One island, tied by the first of four runs.
    private static final String[] RING = {
        ".....",
        ".###.",
        ".#.#.",
        ".###.",
        "....."};

    // Five islands; the bridges are (0,1), (3,1), (3,3) and (5,3), and each run of the island at
    // (3,2) touches one of them, so that it is loose.
    private static final String[] LOOSE = {
        ".##.##",
        "#..#.#",
        "###.##",
        "##.#.#",
        "#####."};

    // A piece of depth 2 around an island of depth 4.
    private static final String[] NESTED = {
        ".........",
        ".#######.",
        ".#.....#.",
        ".#.###.#.",
        ".#.#.#.#.",
        ".#.###.#.",
        ".#.....#.",
        ".#######.",
        "........."};

    public static void main(String[] args) {
        promise1();
        promise2();
        promise3();
        promise4();
        promise5();
        promise6();
        promise7();
        promise7Runs();
        promise8();
        promise9();
        promise10();
        promise11();
        promise12();
        promise13();
        promise14();
        promise15();
        promise16();
        promise17();
        errorsChangeNothing();
        Check.finish();
    }

    private static void promise1() {
        StencilCuts x = new StencilCuts();
        Check.due("1: W", x.count(0), 8);
        Check.due("1: H", x.count(1), 8);
        for (int what = 2; what < 6; what++) {
            Check.due("1: count " + what, x.count(what), 0);
        }
        for (int layer = 0; layer < 4; layer++) {
            for (int what = 0; what < 8; what++) {
                Check.due("1: layer " + layer + ", " + what, x.layer(layer, what), 0);
            }
            for (int what = 0; what < 3; what++) {
                Check.due("1: knife " + layer + ", " + what, x.knife(layer, what), 0);
            }
        }
        Check.due("1: a cell", x.cell(3, 7, 7, 0), 0);
        Check.due("1: a wish", x.wish(7, 7, 0), 0);
        Check.due("1: no first image", x.restore(0), STATE);
        Check.due("1: no second image", x.restore(1), STATE);
        Check.due("1: the best order", x.best(0), 123);
    }

    private static void promise2() {
        StencilCuts x = new StencilCuts();
        x.image(1);
        Check.due("2: least", x.sheet(3, 3), 9);
        Check.due("2: most", x.sheet(10, 10), 100);
        Check.due("2: wide", x.sheet(10, 3), 30);
        Check.due("2: W", x.count(0), 10);
        Check.due("2: H", x.count(1), 3);
        x.row(0, 2, 1023);
        x.cut(3, 9, 0, 1);
        x.wish(9, 2, 4);
        int[][] bad = {{2, 3}, {3, 2}, {11, 3}, {3, 11}, {0, 0}, {-3, -3}, {LOW, 5}, {5, HIGH}};
        for (int[] b : bad) {
            Check.due("2: bad " + b[0] + ", " + b[1], x.sheet(b[0], b[1]), OUTSIDE);
        }
        Check.due("2: an error keeps the cells", x.count(2), 11);
        Check.due("2: an error keeps the size", x.count(0), 10);
        Check.due("2: edges before", x.knife(0, 0), 22);
        Check.due("2: wrong cells before", x.best(1), 11);
        Check.due("2: the same size", x.sheet(10, 3), 30);
        Check.due("2: cells are closed", x.count(2), 0);
        Check.due("2: wishes are 0", x.count(3), 0);
        Check.due("2: this wish is 0", x.wish(9, 2, 1), 0);
        Check.due("2: plans are new", x.knife(0, 0), 0);
        Check.due("2: so is the picture", x.best(1), 1);
        Check.due("2: images stay", x.count(5), 2);
        Check.due("2: restore", x.restore(1), 1);
        Check.due("2: restored W", x.count(0), 8);
    }

    private static void promise3() {
        StencilCuts x = new StencilCuts();
        x.sheet(4, 6);
        Check.due("3: open", x.cut(0, 3, 5, 1), 1);
        Check.due("3: open again", x.cut(0, 3, 5, 1), 1);
        Check.due("3: open another", x.cut(0, 0, 0, 1), 2);
        Check.due("3: other layers stay", x.cut(3, 0, 0, 1), 1);
        Check.due("3: close", x.cut(0, 3, 5, 0), 1);
        Check.due("3: close again", x.cut(0, 3, 5, 0), 1);
        Check.due("3: layer 4", x.cut(4, 0, 0, 1), UNKNOWN);
        Check.due("3: layer -1", x.cut(-1, 0, 0, 1), UNKNOWN);
        Check.due("3: UNKNOWN comes first", x.cut(HIGH, -1, 6, 2), UNKNOWN);
        Check.due("3: x is W", x.cut(0, 4, 0, 1), OUTSIDE);
        Check.due("3: y is H", x.cut(0, 0, 6, 1), OUTSIDE);
        Check.due("3: x is -1", x.cut(0, -1, 0, 1), OUTSIDE);
        Check.due("3: y is -1", x.cut(0, 0, -1, 1), OUTSIDE);
        Check.due("3: x is low", x.cut(0, LOW, 0, 1), OUTSIDE);
        Check.due("3: y is high", x.cut(0, 0, HIGH, 1), OUTSIDE);
        Check.due("3: on is 2", x.cut(0, 0, 0, 2), OUTSIDE);
        Check.due("3: on is -1", x.cut(0, 0, 0, -1), OUTSIDE);
        Check.due("3: errors change nothing", x.count(2), 2);
    }

    private static void promise4() {
        StencilCuts x = new StencilCuts();
        x.sheet(3, 4);
        Check.due("4: bits from W on do not matter", x.row(2, 3, 1023), 3);
        Check.due("4: only such bits", x.row(2, 0, 1016), 3);
        Check.due("4: bit 0 is x 0", x.row(2, 3, 1), 1);
        Check.due("4: x 0", x.cell(2, 0, 3, 0), 1);
        Check.due("4: x 2", x.cell(2, 2, 3, 0), 0);
        Check.due("4: another row", x.row(2, 1, 6), 3);
        Check.due("4: no bits", x.row(2, 3, 0), 2);
        Check.due("4: layer 4", x.row(4, 0, 0), UNKNOWN);
        Check.due("4: UNKNOWN comes first", x.row(-1, 4, 1024), UNKNOWN);
        Check.due("4: y is H", x.row(2, 4, 7), OUTSIDE);
        Check.due("4: y is -1", x.row(2, -1, 7), OUTSIDE);
        Check.due("4: bits are 1024", x.row(2, 0, 1024), OUTSIDE);
        Check.due("4: bits are -1", x.row(2, 0, -1), OUTSIDE);
        Check.due("4: bits are low", x.row(2, 0, LOW), OUTSIDE);
        Check.due("4: errors change nothing", x.layer(2, 0), 2);
        x.sheet(10, 10);
        Check.due("4: the widest row", x.row(0, 9, 1023), 10);
    }

    private static void promise5() {
        StencilCuts x = new StencilCuts();
        x.sheet(5, 3);
        Check.due("5: first", x.wish(4, 2, 4), 0);
        Check.due("5: second", x.wish(4, 2, 1), 4);
        Check.due("5: another", x.wish(2, 0, 3), 0);
        Check.due("5: x is W", x.wish(5, 0, 0), OUTSIDE);
        Check.due("5: y is H", x.wish(0, 3, 0), OUTSIDE);
        Check.due("5: x is -1", x.wish(-1, 0, 0), OUTSIDE);
        Check.due("5: y is -1", x.wish(0, -1, 0), OUTSIDE);
        Check.due("5: colour 5", x.wish(4, 2, 5), OUTSIDE);
        Check.due("5: colour -1", x.wish(4, 2, -1), OUTSIDE);
        Check.due("5: errors change nothing", x.wish(4, 2, 0), 1);
        Check.due("5: back to 0", x.count(3), 1);
    }

    private static void promise6() {
        StencilCuts x = Drawing.of(1, RING);
        Check.due("6: open", x.cell(1, 1, 1, 0), 1);
        Check.due("6: a bridge is open", x.cell(1, 1, 2, 0), 1);
        Check.due("6: closed", x.cell(1, 2, 2, 0), 0);
        Check.due("6: island", x.cell(1, 2, 2, 1), 0);
        Check.due("6: an open cell has no island", x.cell(1, 1, 1, 1), NONE);
        Check.due("6: the frame's piece is no island", x.cell(1, 0, 0, 1), NONE);
        Check.due("6: hole", x.cell(1, 3, 3, 2), 0);
        Check.due("6: a bridge belongs to its hole", x.cell(1, 1, 2, 2), 0);
        Check.due("6: a closed cell has no hole", x.cell(1, 2, 2, 2), NONE);
        Check.due("6: bridge", x.cell(1, 1, 2, 3), 0);
        Check.due("6: no bridge", x.cell(1, 3, 2, 3), NONE);
        Check.due("6: the same cell of another layer", x.cell(0, 2, 2, 1), NONE);
        Check.due("6: layer 4", x.cell(4, 0, 0, 0), UNKNOWN);
        Check.due("6: UNKNOWN comes first", x.cell(-1, 5, 5, 4), UNKNOWN);
        Check.due("6: x is W", x.cell(1, 5, 0, 1), OUTSIDE);
        Check.due("6: y is H", x.cell(1, 0, 5, 1), OUTSIDE);
        Check.due("6: x is -1", x.cell(1, -1, 0, 1), OUTSIDE);
        Check.due("6: y is -1", x.cell(1, 0, -1, 1), OUTSIDE);
        Check.due("6: what is 4", x.cell(1, 0, 0, 4), OUTSIDE);
        Check.due("6: what is -1", x.cell(1, 0, 0, -1), OUTSIDE);
        x.cut(1, 2, 1, 0);
        Check.due("6: the state at the time of the call", x.cell(1, 2, 2, 1), NONE);
        StencilCuts holes = Drawing.of(0, "#.#", ".#.", "#.#");
        int[] due = {0, NONE, 1, NONE, 2, NONE, 3, NONE, 4};
        for (int k = 0; k < 9; k++) {
            Check.due("6: holes by order of cells, " + k, holes.cell(0, k % 3, k / 3, 2), due[k]);
        }
    }

    private static void promise7() {
        Due.layer("7: ring", Drawing.of(1, RING), 1, 8, 1, 1, 1, 1, 0, 1, 4);
        Due.layer("7: loose", Drawing.of(2, LOOSE), 2, 21, 5, 4, 4, 4, 1, 5, 18);
        Due.layer("7: all open", Drawing.of(0, "###", "###", "###"), 0, 9, 0, 1, 0, 0, 0, 0, 0);
        // Closed cells that touch at a corner alone are not connected; the frame joins the rest.
        Due.layer("7: corner", Drawing.of(0, ".##.", "#.##", "##.#", ".##."), 0, 10, 2, 2, 2, 2, 0, 2, 8);
        StencilCuts x = Drawing.of(2, LOOSE);
        Check.due("7: layer 4", x.layer(4, 0), UNKNOWN);
        Check.due("7: UNKNOWN comes first", x.layer(-1, 8), UNKNOWN);
        Check.due("7: what is 8", x.layer(2, 8), OUTSIDE);
        Check.due("7: what is -1", x.layer(2, -1), OUTSIDE);
        Check.due("7: what is low", x.layer(2, LOW), OUTSIDE);
        Due.layer("7: another layer", x, 1, 0, 0, 0, 0, 0, 0, 0, 0);
    }

    private static void promise7Runs() {
        // Two runs of 1 cell and two of 2; the horizontal one of 1 cell is taken.
        StencilCuts x = Drawing.of(0, "......", ".####.", ".####.", ".##.#.", ".####.", "......");
        Due.layer("7: lengths", x, 0, 15, 1, 1, 1, 1, 0, 1, 4);
        x.cut(0, 5, 3, 1);
        x.cut(0, 3, 5, 1);
        // Now all runs have 2 cells, and the vertical ones come later.
        Due.layer("7: longer", x, 0, 17, 1, 1, 1, 2, 0, 2, 4);
        Check.due("7: the first cell of the first one", x.bridge(0, 0, 0), 1);
        Check.due("7: and its y", x.bridge(0, 0, 1), 3);
    }

    private static void promise8() {
        StencilCuts x = Drawing.of(2, LOOSE);
        Due.island("8: loose", x, 2, 0, 2, 2, 1, 1, 0, 2);
        Due.island("8: loose", x, 2, 1, 1, 2, 4, 1, 0, 1);
        Due.island("8: loose", x, 2, 2, 1, 2, 3, 2, 1, 0);
        Due.island("8: loose", x, 2, 3, 1, 2, 2, 3, 0, 1);
        Due.island("8: loose", x, 2, 4, 1, 2, 4, 3, 0, 2);
        StencilCuts nested = Drawing.of(3, NESTED);
        Due.island("8: nested", nested, 3, 0, 16, 2, 2, 2, 0, 2);
        Due.island("8: nested", nested, 3, 1, 1, 4, 4, 4, 0, 1);
        Check.due("8: no island 5", x.island(2, 5, 0), NONE);
        Check.due("8: no island -1", x.island(2, -1, 0), NONE);
        Check.due("8: no island -6", x.island(2, NONE, 0), NONE);
        Check.due("8: no island low", x.island(2, LOW, 5), NONE);
        Check.due("8: no island high", x.island(2, HIGH, 5), NONE);
        Check.due("8: OUTSIDE before NONE", x.island(2, -1, 6), OUTSIDE);
        Check.due("8: what is -1", x.island(2, 0, -1), OUTSIDE);
        Check.due("8: layer 4", x.island(4, 0, 0), UNKNOWN);
        Check.due("8: UNKNOWN comes first", x.island(-1, -1, 6), UNKNOWN);
    }

    private static void promise9() {
        StencilCuts x = Drawing.of(2, LOOSE);
        Due.bridge("9: loose", x, 2, 0, 0, 1, 1, 0, NONE, 0);
        Due.bridge("9: loose", x, 2, 1, 3, 1, 1, 0, 0, 1);
        Due.bridge("9: loose", x, 2, 2, 3, 3, 1, 0, 3, 4);
        Due.bridge("9: loose", x, 2, 3, 5, 3, 1, 0, 4, NONE);
        StencilCuts vertical = Drawing.of(0, "#####", "##.##", "#####");
        Due.bridge("9: vertical", vertical, 0, 0, 2, 0, 1, 1, NONE, 0);
        StencilCuts below = Drawing.of(0, "#####", "#####", "#####", "##.##", "#####");
        Due.bridge("9: below", below, 0, 0, 2, 4, 1, 1, 0, NONE);
        StencilCuts wide = Drawing.of(0, "#####", "#####", "##.##", "#####", "#####");
        Due.bridge("9: horizontal before vertical", wide, 0, 0, 0, 2, 2, 0, NONE, 0);
        Check.due("9: no bridge 4", x.bridge(2, 4, 0), NONE);
        Check.due("9: no bridge -1", x.bridge(2, -1, 0), NONE);
        Check.due("9: no bridge low", x.bridge(2, LOW, 0), NONE);
        Check.due("9: no bridge high", x.bridge(2, HIGH, 0), NONE);
        Check.due("9: OUTSIDE before NONE", x.bridge(2, -1, 6), OUTSIDE);
        Check.due("9: what is -1", x.bridge(2, 0, -1), OUTSIDE);
        Check.due("9: layer 4", x.bridge(4, 0, 0), UNKNOWN);
        Check.due("9: UNKNOWN comes first", x.bridge(-1, -1, 6), UNKNOWN);
    }

    private static void promise10() {
        StencilCuts x = Drawing.of(2, LOOSE);
        Due.knife("10: loose", x, 2, 36, 3, 6);
        Due.knife("10: closed", x, 0, 0, 0, 0);
        Due.knife("10: ring", Drawing.of(0, RING), 0, 16, 1, 2);
        Due.knife("10: all open", Drawing.of(0, "####", "####", "####"), 0, 14, 1, 0);
        Due.knife("10: a common corner makes one loop", Drawing.of(0, "...", ".#.", "..#"), 0, 8, 1, 2);
        Due.knife("10: two loops", Drawing.of(0, "#..", "...", "..#"), 0, 8, 2, 4);
        Check.due("10: layer 4", x.knife(4, 0), UNKNOWN);
        Check.due("10: UNKNOWN comes first", x.knife(-1, 3), UNKNOWN);
        Check.due("10: what is 3", x.knife(2, 3), OUTSIDE);
        Check.due("10: what is -1", x.knife(2, -1), OUTSIDE);
    }

    private static void promise11() {
        StencilCuts x = Drawing.of(2, LOOSE);
        Due.loop("11: loose", x, 2, 0, 0, 6, 1, 0);
        Due.loop("11: loose", x, 2, 1, 2, 18, 1, 2);
        Due.loop("11: loose", x, 2, 2, 1, 12, 4, 2);
        // From (0, 0), (4, 1) of loop 2 is as far as (2, 3) of loop 1, and the first one of them.
        StencilCuts tie = Drawing.of(0,
                "#.....#.",
                "....#.#.",
                "......#.",
                "..#####.",
                "........");
        Due.loop("11: tie of loops", tie, 0, 0, 0, 4, 0, 0);
        Due.loop("11: tie of loops", tie, 0, 1, 1, 18, 2, 3);
        Due.loop("11: tie of loops", tie, 0, 2, 2, 4, 4, 2);
        Check.due("11: its air path", tie.knife(0, 2), 8);
        // (2, 0) and (1, 1), or (2, 0) and (0, 2), are of one loop and equally far from (0, 0).
        Due.loop("11: tie of corners", Drawing.of(0, "..#", ".##", "##."), 0, 0, 0, 12, 2, 0);
        Due.loop("11: tie of corners", Drawing.of(0, "..##", "...#", "####", "...."), 0, 0, 0, 16, 2, 0);
        Check.due("11: no loop 3", x.loop(2, 3, 0), NONE);
        Check.due("11: no loop -1", x.loop(2, -1, 0), NONE);
        Check.due("11: no loop low", x.loop(2, LOW, 3), NONE);
        Check.due("11: no loop high", x.loop(2, HIGH, 3), NONE);
        Check.due("11: OUTSIDE before NONE", x.loop(2, -1, 4), OUTSIDE);
        Check.due("11: what is -1", x.loop(2, 0, -1), OUTSIDE);
        Check.due("11: layer 4", x.loop(4, 0, 0), UNKNOWN);
        Check.due("11: UNKNOWN comes first", x.loop(-1, -1, 4), UNKNOWN);
    }

    /** Layer 1 must come before 0, and 2 after both; (0, 1) is wrong by each order. */
    private static StencilCuts painted() {
        StencilCuts x = new StencilCuts();
        x.sheet(3, 3);
        x.row(0, 0, 3);
        x.row(1, 0, 3);
        x.row(2, 0, 6);
        x.wish(0, 0, 1);
        x.wish(1, 0, 3);
        x.wish(2, 0, 3);
        x.wish(0, 1, 4);
        return x;
    }

    private static void promise12() {
        StencilCuts x = painted();
        Check.due("12: layer 0 above 1", x.paint(0, 0), 1);
        Check.due("12: layer 2 above all", x.paint(1, 0), 3);
        Check.due("12: layer 2 alone", x.paint(2, 0), 3);
        Check.due("12: open in none", x.paint(0, 1), 0);
        x.wish(0, 0, 2);
        Check.due("12: after another wish", x.paint(0, 0), 2);
        x.cut(3, 0, 1, 1);
        Check.due("12: after a cut", x.paint(0, 1), 4);
        Check.due("12: x is W", x.paint(3, 0), OUTSIDE);
        Check.due("12: y is H", x.paint(0, 3), OUTSIDE);
        Check.due("12: x is -1", x.paint(-1, 0), OUTSIDE);
        Check.due("12: y is low", x.paint(0, LOW), OUTSIDE);
        StencilCuts ring = Drawing.of(0, RING);
        Check.due("12: a bridge takes no colour", ring.paint(1, 2), 0);
        Check.due("12: the rest of the ring does", ring.paint(3, 2), 1);
    }

    private static void promise13() {
        StencilCuts x = painted();
        Check.due("13: 0123", x.wrong(123), 2);
        Check.due("13: 1023", x.wrong(1023), 1);
        Check.due("13: 3210", x.wrong(3210), 2);
        Check.due("13: 2013", x.wrong(2013), 3);
        int[] bad = {-123, -1, 0, 12, 122, 124, 321 + 4000, 1234, 1022, 3333, 3211, 9999, 10123,
            12340, LOW, HIGH};
        for (int order : bad) {
            Check.due("13: no order " + order, x.wrong(order), OUTSIDE);
        }
        int orders = 0;
        for (int n = 0; n < 10000; n++) {
            orders += new StencilCuts().wrong(n) == 0 ? 1 : 0;
        }
        Check.due("13: orders", orders, 24);
        // The wishes are met on the whole ring but at its bridge, which stays without paint.
        StencilCuts ring = Drawing.of(2, RING);
        for (int k = 0; k < 25; k++) {
            ring.wish(k % 5, k / 5, ring.cell(2, k % 5, k / 5, 0) * 3);
        }
        Check.due("13: the bridge is wrong", ring.wrong(3210), 1);
    }

    private static void promise14() {
        StencilCuts x = painted();
        Check.due("14: order", x.best(0), 1023);
        Check.due("14: wrong", x.best(1), 1);
        Check.due("14: orders as good", x.best(2), 4);
        x.wish(0, 0, 2);
        Check.due("14: order after a wish", x.best(0), 123);
        Check.due("14: wrong after a wish", x.best(1), 1);
        x.row(2, 0, 0);
        Check.due("14: wrong after a row", x.best(1), 3);
        Check.due("14: orders as good after a row", x.best(2), 12);
        Check.due("14: what is 3", x.best(3), OUTSIDE);
        Check.due("14: what is -1", x.best(-1), OUTSIDE);
        StencilCuts last = new StencilCuts();
        // 0 above 1, 1 above 2 and 2 above 3 is met by the last order alone.
        last.row(0, 0, 1);
        last.row(1, 0, 3);
        last.row(2, 0, 6);
        last.row(3, 0, 4);
        last.wish(0, 0, 1);
        last.wish(1, 0, 2);
        last.wish(2, 0, 3);
        Check.due("14: the last order", last.best(0), 3210);
        Check.due("14: nothing is wrong by it", last.best(1), 0);
        Check.due("14: no other is as good", last.best(2), 1);
    }

    private static void promise15() {
        StencilCuts x = painted();
        Check.due("15: k is 2", x.image(2), OUTSIDE);
        Check.due("15: k is -1", x.image(-1), OUTSIDE);
        Check.due("15: k is low", x.image(LOW), OUTSIDE);
        Check.due("15: none is kept", x.count(5), 0);
        Check.due("15: keep the second", x.image(1), 1);
        Check.due("15: the second is kept", x.count(5), 2);
        Check.due("15: the first is not", x.restore(0), STATE);
        x.sheet(4, 4);
        x.cut(3, 3, 3, 1);
        Check.due("15: keep the first", x.image(0), 1);
        Check.due("15: both are kept", x.count(5), 3);
        x.restore(1);
        Check.due("15: the second is its own", x.best(0), 1023);
        x.wish(0, 0, 4);
        Check.due("15: replace the first", x.image(0), 1);
        x.restore(0);
        Check.due("15: W of the replaced one", x.count(0), 3);
        Check.due("15: a wish of the replaced one", x.wish(0, 0, 0), 4);
        x.restore(1);
        Check.due("15: the second is as it was", x.wish(0, 0, 0), 1);
    }

    private static void promise16() {
        StencilCuts x = Drawing.of(2, LOOSE);
        x.wish(5, 4, 2);
        x.image(0);
        Check.due("16: k is 2", x.restore(2), OUTSIDE);
        Check.due("16: k is -1", x.restore(-1), OUTSIDE);
        Check.due("16: k is high", x.restore(HIGH), OUTSIDE);
        Check.due("16: nothing was kept", x.restore(1), STATE);
        x.sheet(10, 10);
        Check.due("16: another sheet", x.knife(2, 0), 0);
        Check.due("16: restore", x.restore(0), 1);
        Due.layer("16: layer", x, 2, 21, 5, 4, 4, 4, 1, 5, 18);
        Due.knife("16: knife", x, 2, 36, 3, 6);
        Check.due("16: W", x.count(0), 6);
        Check.due("16: H", x.count(1), 5);
        Check.due("16: the wish", x.wish(5, 4, 0), 2);
        x.cut(2, 0, 0, 1);
        Check.due("16: restore again", x.restore(0), 1);
        Check.due("16: the image keeps the cells", x.layer(2, 0), 21);
        Check.due("16: and the wishes", x.wish(5, 4, 0), 2);
        Check.due("16: and is kept", x.count(5), 1);
    }

    private static void promise17() {
        StencilCuts x = Drawing.of(2, LOOSE);
        Drawing.add(x, 0, LOOSE);
        Drawing.add(x, 1, "......", ".###..", ".#.#..", ".###..", "......");
        x.wish(0, 0, 1);
        x.wish(5, 4, 4);
        Check.due("17: W", x.count(0), 6);
        Check.due("17: H", x.count(1), 5);
        Check.due("17: open cells", x.count(2), 50);
        Check.due("17: wishes", x.count(3), 2);
        Check.due("17: layers with loose islands", x.count(4), 2);
        x.cut(0, 3, 2, 1);
        Check.due("17: one of them filled", x.count(4), 1);
        x.wish(0, 0, 0);
        Check.due("17: one wish less", x.count(3), 1);
        x.image(0);
        Check.due("17: images", x.count(5), 1);
        x.image(1);
        Check.due("17: both images", x.count(5), 3);
        Check.due("17: what is 6", x.count(6), OUTSIDE);
        Check.due("17: what is -1", x.count(-1), OUTSIDE);
        Check.due("17: what is low", x.count(LOW), OUTSIDE);
    }

    private static void errorsChangeNothing() {
        StencilCuts x = painted();
        Drawing.add(x, 3, "###", "#.#", "###");
        String before = answers(x);
        x.sheet(3, 11);
        x.cut(0, 0, 3, 1);
        x.cut(4, 0, 0, 1);
        x.cut(0, 2, 2, 2);
        x.row(0, 3, 7);
        x.row(0, 2, 1024);
        x.row(9, 2, 7);
        x.wish(0, 0, 5);
        x.wish(3, 0, 1);
        x.image(2);
        x.restore(0);
        x.restore(2);
        Check.holds("errors change nothing", before.equals(answers(x)));
    }

    private static String answers(StencilCuts x) {
        StringBuilder all = new StringBuilder();
        for (int layer = 0; layer < 4; layer++) {
            for (int k = 0; k < 9; k++) {
                all.append(x.cell(layer, k % 3, k / 3, 0)).append(' ').append(x.layer(layer, k))
                        .append(' ').append(x.paint(k % 3, k / 3)).append(' ');
            }
        }
        for (int what = 0; what < 6; what++) {
            all.append(x.count(what)).append(' ').append(x.best(what)).append(' ');
        }
        return all.toString();
    }
}
