/** The sentences of promises 1 to 6: a new object, sheet, cut, row, wish and cell. */
public final class ChangesTest {
    private static final int UNKNOWN = -1, OUTSIDE = -2, STATE = -3, NONE = -6;
    private static final int LOW = Integer.MIN_VALUE, HIGH = Integer.MAX_VALUE;

    public static void main(String[] args) {
        newObject();
        objectsAreTheirOwn();
        sheetClosesAll();
        sheetSetsWishes();
        sheetKeepsImages();
        sheetToSmallerAndBack();
        cutCounts();
        cutEmptyAndFull();
        cutRefused();
        rowCounts();
        rowBitsFromW();
        rowRefused();
        wishPrevious();
        wishRefused();
        cellProperties();
        cellNone();
        cellRefused();
        Check.finish();
    }

    private static void newObject() {
        Check.sentence("Creates a sheet of 8 columns and 8 rows, with all cells closed in all layers"
                + " and all wishes 0; no image is kept.");
        StencilCuts x = new StencilCuts();
        Check.due("W", x.count(0), 8);
        Check.due("H", x.count(1), 8);
        for (int layer = 0; layer < 4; layer++) {
            for (int k = 0; k < 64; k++) {
                Check.due("cell " + k + " of " + layer, x.cell(layer, k % 8, k / 8, 0), 0);
            }
        }
        StencilCuts y = new StencilCuts();
        for (int k = 0; k < 64; k++) {
            Check.due("wish " + k, y.wish(k % 8, k / 8, 0), 0);
        }
        for (int what = 2; what < 6; what++) {
            Check.due("count " + what, y.count(what), 0);
        }
        Check.due("no first image", y.restore(0), STATE);
        Check.due("no second image", y.restore(1), STATE);
        Check.due("no cell 8", y.cell(0, 8, 0, 0), OUTSIDE);
        Check.due("no row 8", y.row(0, 8, 0), OUTSIDE);
    }

    private static void objectsAreTheirOwn() {
        Check.sentence("Creates a sheet of 8 columns and 8 rows");
        StencilCuts one = new StencilCuts();
        StencilCuts other = new StencilCuts();
        one.cut(0, 0, 0, 1);
        one.wish(0, 0, 3);
        one.image(0);
        one.sheet(5, 5);
        for (int what = 0; what < 6; what++) {
            Check.due("count " + what, other.count(what), what < 2 ? 8 : 0);
        }
        Check.due("edges", other.knife(0, 0), 0);
        Check.due("after another was made", one.count(0), 5);
        // Two that are asked in turn do not use one another's rows.
        StencilCuts ring = Drawing.of(0, "###", "#.#", "###");
        StencilCuts bar = Drawing.of(0, "...", "###", "...");
        Check.due("ring", ring.layer(0, 3), 1);
        Check.due("bar", bar.layer(0, 3), 0);
        Check.due("ring again", ring.bridge(0, 0, 1), 1);
        Check.due("ring's edges", ring.knife(0, 0), 16);
        Check.due("bar's edges", bar.knife(0, 0), 8);
        Check.due("ring's loop", ring.loop(0, 0, 1), 16);
    }

    private static StencilCuts fullOfAll(int wide, int high) {
        StencilCuts x = new StencilCuts();
        x.sheet(wide, high);
        for (int layer = 0; layer < 4; layer++) {
            for (int y = 0; y < high; y++) {
                x.row(layer, y, 1023);
            }
        }
        return x;
    }

    private static void sheetClosesAll() {
        Check.sentence("All cells of all layers become closed, and all wishes become 0.");
        for (int[] size : new int[][] {{10, 10}, {3, 3}, {10, 3}, {3, 10}, {9, 10}}) {
            StencilCuts x = fullOfAll(10, 10);
            Check.due("open before", x.count(2), 400);
            Check.due("sheet", x.sheet(size[0], size[1]), size[0] * size[1]);
            Check.due("open after", x.count(2), 0);
            for (int layer = 0; layer < 4; layer++) {
                Due.layer("layer " + layer, x, layer, 0, 0, 0, 0, 0, 0, 0, 0);
                Due.knife("layer " + layer, x, layer, 0, 0, 0);
                Check.due("the last cell", x.cell(layer, size[0] - 1, size[1] - 1, 0), 0);
                Check.due("the first cell", x.cell(layer, 0, 0, 0), 0);
            }
            Check.due("colour", x.paint(0, 0), 0);
        }
    }

    private static void sheetSetsWishes() {
        Check.sentence("All cells of all layers become closed, and all wishes become 0.");
        StencilCuts x = new StencilCuts();
        x.sheet(10, 10);
        for (int k = 0; k < 100; k++) {
            x.wish(k % 10, k / 10, 1 + k % 4);
        }
        Check.due("wishes before", x.count(3), 100);
        Check.due("wrong before", x.best(1), 100);
        Check.due("the same size", x.sheet(10, 10), 100);
        Check.due("wishes after", x.count(3), 0);
        Check.due("wrong after", x.best(1), 0);
        for (int k = 0; k < 100; k++) {
            Check.due("wish " + k, x.wish(k % 10, k / 10, 4), 0);
        }
        x.sheet(3, 3);
        Check.due("smaller", x.count(3), 0);
        x.sheet(10, 10);
        Check.due("larger again", x.count(3), 0);
        Check.due("beyond the smaller one", x.wish(9, 9, 0), 0);
    }

    private static void sheetKeepsImages() {
        Check.sentence("The images stay.");
        StencilCuts x = fullOfAll(4, 5);
        x.wish(3, 4, 2);
        x.image(0);
        x.cut(0, 0, 0, 0);
        x.image(1);
        Check.due("sheet", x.sheet(10, 10), 100);
        Check.due("both are kept", x.count(5), 3);
        Check.due("restore the first", x.restore(0), 1);
        Check.due("W", x.count(0), 4);
        Check.due("H", x.count(1), 5);
        Check.due("its cells", x.count(2), 80);
        Check.due("its wishes", x.count(3), 1);
        Check.due("restore the second", x.restore(1), 1);
        Check.due("its cells", x.count(2), 79);
        StencilCuts none = new StencilCuts();
        none.sheet(5, 5);
        Check.due("none is kept", none.count(5), 0);
        Check.due("nothing to restore", none.restore(0), STATE);
    }

    private static void sheetToSmallerAndBack() {
        Check.sentence("Sets the size of the sheet.");
        StencilCuts x = fullOfAll(10, 10);
        x.sheet(3, 4);
        for (int y = 0; y < 4; y++) {
            x.row(0, y, 1023);
        }
        Check.due("cells of the small sheet", x.layer(0, 0), 12);
        Due.knife("small", x, 0, 14, 1, 0);
        Check.due("no cell beyond", x.cell(0, 3, 0, 0), OUTSIDE);
        Check.due("no row beyond", x.row(0, 4, 0), OUTSIDE);
        x.sheet(10, 10);
        Check.due("cells of the large sheet", x.layer(0, 0), 0);
        Check.due("a cell beyond the small one", x.cell(0, 3, 0, 0), 0);
        Check.due("and one of it", x.cell(0, 2, 3, 0), 0);
    }

    private static void cutCounts() {
        Check.sentence("Returns the number of open cells of the layer then");
        StencilCuts x = new StencilCuts();
        x.sheet(10, 3);
        Check.due("open", x.cut(0, 9, 2, 1), 1);
        Check.due("open what is open", x.cut(0, 9, 2, 1), 1);
        Check.due("close what is closed", x.cut(0, 0, 0, 0), 1);
        Check.due("open another", x.cut(0, 0, 0, 1), 2);
        Check.due("another layer", x.cut(3, 0, 0, 1), 1);
        Check.due("close", x.cut(0, 9, 2, 0), 1);
        Check.due("close the last one", x.cut(0, 0, 0, 0), 0);
        Check.due("of the layer alone", x.count(2), 1);
        // A bridge's cell is an open one.
        StencilCuts ring = Drawing.of(0, "###", "#.#", "##.");
        Check.due("bridges do not matter", ring.cut(0, 2, 2, 1), 8);
        Check.due("a bridge closed", ring.cut(0, 0, 1, 0), 7);
        Check.due("no island then", ring.layer(0, 1), 0);
    }

    private static void cutEmptyAndFull() {
        Check.sentence("Opens or closes a cell of a layer.");
        for (int side = 3; side <= 10; side++) {
            StencilCuts x = new StencilCuts();
            x.sheet(side, 3);
            for (int k = 0; k < side * 3; k++) {
                Check.due("open " + k, x.cut(1, k % side, k / side, 1), k + 1);
                Check.due("it is open", x.cell(1, k % side, k / side, 0), 1);
            }
            for (int k = 0; k < side * 3; k++) {
                Check.due("close " + k, x.cut(1, k % side, k / side, 0), side * 3 - 1 - k);
                Check.due("it is closed", x.cell(1, k % side, k / side, 0), 0);
            }
        }
    }

    private static void cutRefused() {
        Check.sentence("OUTSIDE if there is no such cell or on is not 0 or 1.");
        StencilCuts x = Drawing.of(0, "#..", "...", "...", "..#");
        for (int on : new int[] {LOW, -1, 2, 3, HIGH}) {
            Check.due("open cell, on " + on, x.cut(0, 0, 0, on), OUTSIDE);
            Check.due("closed cell, on " + on, x.cut(0, 1, 1, on), OUTSIDE);
        }
        for (int on = 0; on < 2; on++) {
            for (int[] cell : new int[][] {{3, 0}, {0, 4}, {-1, 0}, {0, -1}, {3, 3}, {2, 4}, {32, 0},
                {0, 32}, {LOW, LOW}, {HIGH, HIGH}}) {
                Check.due("cell " + cell[0] + ", " + cell[1], x.cut(0, cell[0], cell[1], on), OUTSIDE);
            }
        }
        Check.due("nothing changed", x.layer(0, 0), 2);
        Check.due("the first cell", x.cell(0, 0, 0, 0), 1);
        Check.due("a closed cell", x.cell(0, 1, 1, 0), 0);
        Check.due("the last cell", x.cell(0, 2, 3, 0), 1);
    }

    private static void rowCounts() {
        Check.sentence("Sets a whole row of a layer.");
        StencilCuts x = new StencilCuts();
        x.sheet(10, 10);
        Check.due("all", x.row(2, 0, 1023), 10);
        Check.due("other rows stay", x.row(2, 9, 1), 11);
        Check.due("cells that were open are closed", x.row(2, 0, 512), 2);
        Check.due("the last cell of the row", x.cell(2, 9, 0, 0), 1);
        Check.due("the first cell of the row", x.cell(2, 0, 0, 0), 0);
        Check.due("the first cell of the last row", x.cell(2, 0, 9, 0), 1);
        Check.due("none", x.row(2, 0, 0), 1);
        Check.due("other layers stay", x.row(1, 0, 3), 2);
        Check.due("all layers", x.count(2), 3);
        for (int bit = 0; bit < 10; bit++) {
            x.row(3, 5, 1 << bit);
            for (int column = 0; column < 10; column++) {
                Check.due("bit " + bit + " at " + column, x.cell(3, column, 5, 0), bit == column ? 1 : 0);
            }
        }
    }

    private static void rowBitsFromW() {
        Check.sentence("a number from 0 to 1023; bit x is set if the cell at x is to be open (bits from"
                + " W on do not matter)");
        for (int wide = 3; wide <= 10; wide++) {
            StencilCuts x = new StencilCuts();
            x.sheet(wide, 3);
            int inside = (1 << wide) - 1;
            Check.due("all bits, W " + wide, x.row(0, 1, 1023), wide);
            Check.due("bits inside, W " + wide, x.row(0, 1, inside), wide);
            Check.due("bits beyond, W " + wide, x.row(0, 1, 1023 - inside), 0);
            Check.due("bit W - 1, W " + wide, x.row(0, 1, 1 << wide - 1), 1);
            Check.due("1024 is refused, W " + wide, x.row(0, 1, 1024), OUTSIDE);
            Check.due("so is 1 more, W " + wide, x.row(0, 1, 1025), OUTSIDE);
            x.row(0, 0, 1023);
            x.row(0, 1, 1023);
            x.row(0, 2, 1023);
            Due.layer("full, W " + wide, x, 0, 3 * wide, 0, 1, 0, 0, 0, 0, 0);
            Due.knife("full, W " + wide, x, 0, 2 * wide + 6, 1, 0);
            Check.due("all layers, W " + wide, x.count(2), 3 * wide);
            // Not even an image shows the bits beyond.
            x.image(0);
            x.sheet(10, 10);
            x.restore(0);
            Check.due("restored, W " + wide, x.layer(0, 0), 3 * wide);
        }
    }

    private static void rowRefused() {
        Check.sentence("OUTSIDE if there is no such row or bits is out of range.");
        StencilCuts x = Drawing.of(3, "#..", ".#.", "..#", "###");
        for (int bits : new int[] {LOW, -1024, -1, 1024, 2047, 1 << 16, HIGH}) {
            for (int y = 0; y < 4; y++) {
                Check.due("row " + y + ", bits " + bits, x.row(3, y, bits), OUTSIDE);
            }
        }
        for (int y : new int[] {LOW, -1, 4, 8, 10, HIGH}) {
            Check.due("row " + y, x.row(3, y, 7), OUTSIDE);
        }
        Check.due("layer", x.row(4, 0, 7), UNKNOWN);
        Check.due("nothing changed", x.layer(3, 0), 6);
        Check.due("nothing in other layers", x.count(2), 6);
        Check.due("the diagonal", x.cell(3, 1, 1, 0), 1);
    }

    private static void wishPrevious() {
        Check.sentence("Returns the previous wish");
        StencilCuts x = new StencilCuts();
        x.sheet(3, 10);
        Check.due("at first", x.wish(2, 9, 4), 0);
        Check.due("then", x.wish(2, 9, 4), 4);
        Check.due("the highest is replaced", x.wish(2, 9, 0), 4);
        Check.due("the lowest is replaced", x.wish(2, 9, 1), 0);
        Check.due("another cell", x.wish(0, 0, 3), 0);
        Check.due("the first one", x.wish(2, 9, 2), 1);
        Check.due("wished cells", x.count(3), 2);
        Check.due("back to 0", x.wish(0, 0, 0), 3);
        Check.due("one less", x.count(3), 1);
    }

    private static void wishRefused() {
        Check.sentence("OUTSIDE if there is no such cell or colour is out of range.");
        StencilCuts x = new StencilCuts();
        x.sheet(3, 10);
        x.wish(2, 9, 3);
        for (int colour : new int[] {LOW, -1, 5, 100, HIGH}) {
            Check.due("colour " + colour, x.wish(2, 9, colour), OUTSIDE);
        }
        for (int[] cell : new int[][] {{3, 9}, {2, 10}, {9, 2}, {-1, 9}, {2, -1}, {LOW, 0}, {0, HIGH}}) {
            Check.due("cell " + cell[0] + ", " + cell[1], x.wish(cell[0], cell[1], 1), OUTSIDE);
        }
        Check.due("nothing changed", x.wish(2, 9, 0), 3);
        Check.due("no other wish", x.count(3), 0);
    }

    private static void cellProperties() {
        Check.sentence("0 whether it is open (1 or 0; bridges do not matter), 1 its island, 2 its hole,"
                + " 3 its bridge (1 to 3: NONE if it belongs to none)");
        StencilCuts x = Drawing.of(0, "###", "#.#", "###");
        int[][] due = {
            {1, NONE, 0, NONE}, {1, NONE, 0, NONE}, {1, NONE, 0, NONE},
            {1, NONE, 0, 0}, {0, 0, NONE, NONE}, {1, NONE, 0, NONE},
            {1, NONE, 0, NONE}, {1, NONE, 0, NONE}, {1, NONE, 0, NONE}};
        for (int k = 0; k < 9; k++) {
            for (int what = 0; what < 4; what++) {
                Check.due("cell " + k + ", " + what, x.cell(0, k % 3, k / 3, what), due[k][what]);
            }
        }
    }

    private static void cellNone() {
        Check.sentence("(1 to 3: NONE if it belongs to none)");
        StencilCuts x = new StencilCuts();
        for (int what = 1; what < 4; what++) {
            Check.due("at the border, " + what, x.cell(0, 0, 0, what), NONE);
            Check.due("inside, " + what, x.cell(0, 4, 4, what), NONE);
        }
        Check.due("closed is 0, not NONE", x.cell(0, 4, 4, 0), 0);
    }

    private static void cellRefused() {
        Check.sentence("OUTSIDE if there is no such cell or what is out of range.");
        StencilCuts x = Drawing.of(0, "###", "#.#", "###");
        for (int what : new int[] {LOW, -1, 4, 5, HIGH}) {
            Check.due("what " + what, x.cell(0, 1, 1, what), OUTSIDE);
        }
        for (int what = 0; what < 4; what++) {
            for (int[] cell : new int[][] {{3, 0}, {0, 3}, {-1, 1}, {1, -1}, {LOW, 1}, {1, HIGH}}) {
                Check.due("cell " + cell[0] + ", " + cell[1] + ", " + what,
                        x.cell(0, cell[0], cell[1], what), OUTSIDE);
            }
            Check.due("layer 4", x.cell(4, 1, 1, what), UNKNOWN);
            Check.due("layer -1", x.cell(-1, 1, 1, what), UNKNOWN);
        }
    }
}
