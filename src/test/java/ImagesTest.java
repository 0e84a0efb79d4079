/** The sentences of promises 15 to 17: image, restore and count. */
public final class ImagesTest {
    private static final int OUTSIDE = -2, STATE = -3;
    private static final int LOW = Integer.MIN_VALUE, HIGH = Integer.MAX_VALUE;

    public static void main(String[] args) {
        imageReturnsOne();
        imageRefused();
        imageReplaces();
        imageIsACopy();
        imageOfANewObject();
        restoreAll();
        restoreKeeps();
        restoreRefused();
        restoreWithoutImage();
        smallestAndLargest();
        countSize();
        countCells();
        countWishes();
        countLooseLayers();
        countImages();
        countRefused();
        Check.finish();
    }

    /** All cells of all layers open, and each one wished. */
    private static StencilCuts largest() {
        StencilCuts x = new StencilCuts();
        x.sheet(10, 10);
        for (int layer = 0; layer < 4; layer++) {
            for (int y = 0; y < 10; y++) {
                x.row(layer, y, 1023);
            }
        }
        for (int k = 0; k < 100; k++) {
            x.wish(k % 10, k / 10, 1 + k % 4);
        }
        return x;
    }

    private static void imageReturnsOne() {
        Check.sentence("Returns 1; OUTSIDE if k is out of range.");
        StencilCuts x = new StencilCuts();
        Check.due("the first", x.image(0), 1);
        Check.due("the second", x.image(1), 1);
        Check.due("the first again", x.image(0), 1);
    }

    private static void imageRefused() {
        Check.sentence("Returns 1; OUTSIDE if k is out of range.");
        StencilCuts x = new StencilCuts();
        for (int k : new int[] {LOW, -32, -1, 2, 3, 32, 33, HIGH}) {
            Check.due("image " + k, x.image(k), OUTSIDE);
        }
        Check.due("none is kept", x.count(5), 0);
        x.cut(0, 0, 0, 1);
        x.image(0);
        x.cut(0, 1, 0, 1);
        for (int k : new int[] {-1, 2, 32}) {
            Check.due("image " + k, x.image(k), OUTSIDE);
        }
        x.restore(0);
        Check.due("a refused one replaces nothing", x.count(2), 1);
    }

    private static void imageReplaces() {
        Check.sentence("Keeps the sheet, all layers and all wishes in an image, replacing what was kept"
                + " there.");
        StencilCuts x = largest();
        x.image(0);
        x.image(1);
        x.sheet(3, 4);
        x.cut(3, 2, 3, 1);
        x.wish(0, 0, 2);
        Check.due("replace", x.image(0), 1);
        x.sheet(5, 5);
        x.restore(0);
        Check.due("W", x.count(0), 3);
        Check.due("H", x.count(1), 4);
        Check.due("cells", x.count(2), 1);
        Check.due("wishes", x.count(3), 1);
        Check.due("the cell", x.cell(3, 2, 3, 0), 1);
        Check.due("the wish", x.wish(0, 0, 0), 2);
        x.restore(1);
        Check.due("the other image stays", x.count(2), 400);
        Check.due("both are kept", x.count(5), 3);
    }

    private static void imageIsACopy() {
        Check.sentence("Restores the sheet, all layers and all wishes from an image, which keeps them.");
        StencilCuts x = Drawing.of(1, "#..", "...", "..#");
        x.wish(1, 1, 4);
        x.image(1);
        x.cut(1, 0, 0, 0);
        x.row(2, 0, 7);
        x.wish(1, 1, 3);
        x.wish(0, 0, 1);
        Check.due("restore", x.restore(1), 1);
        Check.due("a cell", x.cell(1, 0, 0, 0), 1);
        Check.due("another layer", x.layer(2, 0), 0);
        Check.due("wishes", x.count(3), 1);
        Check.due("the wish", x.wish(1, 1, 2), 4);
        // What is restored is a copy, too.
        x.cut(1, 1, 0, 1);
        x.restore(1);
        Check.due("cells again", x.layer(1, 0), 2);
        Check.due("the wish again", x.wish(1, 1, 0), 4);
    }

    private static void imageOfANewObject() {
        Check.sentence("Keeps the sheet, all layers and all wishes in an image");
        StencilCuts x = new StencilCuts();
        x.image(0);
        x.sheet(10, 10);
        x.row(0, 9, 1023);
        Check.due("restore", x.restore(0), 1);
        Check.due("W", x.count(0), 8);
        Check.due("H", x.count(1), 8);
        Check.due("cells", x.count(2), 0);
        Check.due("no cell (8, 0)", x.cut(0, 8, 0, 1), OUTSIDE);
    }

    private static void restoreAll() {
        Check.sentence("Restores the sheet, all layers and all wishes from an image");
        StencilCuts x = new StencilCuts();
        x.sheet(6, 5);
        for (int layer = 0; layer < 4; layer++) {
            Drawing.add(x, layer, ".##.##", "#..#.#", "###.##", "##.#.#", "#####.");
            x.cut(layer, layer, 2, 1 - x.cell(layer, layer, 2, 0));
        }
        for (int k = 0; k < 30; k++) {
            x.wish(k % 6, k / 6, k % 5);
        }
        x.image(0);
        String before = answers(x);
        x.sheet(6, 5);
        answers(x);
        x.restore(0);
        Check.holds("the same answers as before", before.equals(answers(x)));
        for (int k = 0; k < 30; k++) {
            Check.due("wish " + k, x.wish(k % 6, k / 6, 0), k % 5);
        }
    }

    private static String answers(StencilCuts x) {
        StringBuilder all = new StringBuilder();
        for (int layer = 0; layer < 4; layer++) {
            for (int what = 0; what < 8; what++) {
                all.append(x.layer(layer, what)).append(' ');
            }
            for (int what = 0; what < 3; what++) {
                all.append(x.knife(layer, what)).append(' ').append(x.best(what)).append(' ');
            }
            for (int what = 0; what < 6; what++) {
                all.append(x.island(layer, 1, what)).append(' ').append(x.bridge(layer, 1, what));
                all.append(' ').append(x.count(what)).append(' ');
            }
        }
        return all.toString();
    }

    private static void restoreKeeps() {
        Check.sentence("from an image, which keeps them");
        StencilCuts x = Drawing.of(0, "###", "#.#", "###");
        x.image(0);
        for (int k = 0; k < 5; k++) {
            x.sheet(3 + k, 10);
            Check.due("restore " + k, x.restore(0), 1);
            Check.due("cells " + k, x.layer(0, 0), 8);
            Check.due("island " + k, x.layer(0, 1), 1);
            Check.due("kept " + k, x.count(5), 1);
        }
    }

    private static void restoreRefused() {
        Check.sentence("Returns 1; OUTSIDE if k is out of range; STATE if nothing was kept there.");
        StencilCuts x = new StencilCuts();
        x.image(0);
        x.image(1);
        x.cut(0, 0, 0, 1);
        for (int k : new int[] {LOW, -32, -1, 2, 3, 32, 33, HIGH}) {
            Check.due("restore " + k, x.restore(k), OUTSIDE);
        }
        Check.due("nothing changed", x.count(2), 1);
        Check.due("the first", x.restore(0), 1);
        Check.due("changed", x.count(2), 0);
        Check.due("the second", x.restore(1), 1);
    }

    private static void restoreWithoutImage() {
        Check.sentence("STATE if nothing was kept there");
        StencilCuts first = Drawing.of(0, "#..", "...", "..#");
        Check.due("none", first.restore(0), STATE);
        Check.due("none", first.restore(1), STATE);
        first.image(0);
        first.cut(0, 1, 1, 1);
        Check.due("the second is not kept", first.restore(1), STATE);
        Check.due("W stays", first.count(0), 3);
        Check.due("cells stay", first.count(2), 3);
        Check.due("the first is kept", first.restore(0), 1);
        StencilCuts second = Drawing.of(0, "#..", "...", "..#");
        second.image(1);
        Check.due("the first is not kept", second.restore(0), STATE);
        Check.due("the second is kept", second.restore(1), 1);
    }

    private static void smallestAndLargest() {
        Check.sentence("Restores the sheet, all layers and all wishes from an image");
        StencilCuts x = largest();
        x.image(1);
        x.sheet(3, 3);
        x.cut(0, 2, 2, 1);
        x.image(0);
        x.restore(1);
        Check.due("largest, cells", x.count(2), 400);
        Check.due("largest, wishes", x.count(3), 100);
        Check.due("largest, the last cell", x.cell(3, 9, 9, 0), 1);
        Check.due("largest, edges", x.knife(3, 0), 40);
        x.restore(0);
        Check.due("smallest, cells", x.count(2), 1);
        Check.due("smallest, wishes", x.count(3), 0);
        Check.due("smallest, edges", x.knife(0, 0), 4);
        Check.due("smallest, wrong cells", x.best(1), 1);
        Check.due("smallest, no cell beyond", x.cell(0, 3, 3, 0), OUTSIDE);
        x.restore(1);
        Check.due("largest again, wish", x.wish(9, 9, 0), 4);
        Check.due("largest again, cells", x.count(2), 400);
    }

    private static void countSize() {
        Check.sentence("0 W, 1 H");
        StencilCuts x = new StencilCuts();
        x.sheet(10, 3);
        Check.due("W", x.count(0), 10);
        Check.due("H", x.count(1), 3);
        x.sheet(3, 10);
        Check.due("W", x.count(0), 3);
        Check.due("H", x.count(1), 10);
        x.sheet(2, 11);
        Check.due("W after a refused call", x.count(0), 3);
        Check.due("H after a refused call", x.count(1), 10);
    }

    private static void countCells() {
        Check.sentence("2 the sum of the numbers of open cells of all layers (bridges do not matter)");
        Check.due("none", new StencilCuts().count(2), 0);
        Check.due("all", largest().count(2), 400);
        StencilCuts x = Drawing.of(0, "###", "#.#", "###");
        Drawing.add(x, 3, "###", "#.#", "###");
        Check.due("with bridges", x.count(2), 16);
    }

    private static void countWishes() {
        Check.sentence("3 cells whose wish is above 0");
        StencilCuts x = new StencilCuts();
        Check.due("none", x.count(3), 0);
        x.wish(0, 0, 0);
        Check.due("a wish of 0", x.count(3), 0);
        x.wish(0, 0, 1);
        Check.due("the lowest above 0", x.count(3), 1);
        x.wish(7, 7, 4);
        Check.due("the highest", x.count(3), 2);
        x.wish(7, 7, 5);
        Check.due("a refused one", x.count(3), 2);
        Check.due("all", largest().count(3), 100);
    }

    private static void countLooseLayers() {
        Check.sentence("4 layers with loose islands");
        StencilCuts x = new StencilCuts();
        x.sheet(7, 7);
        Check.due("no island", x.count(4), 0);
        for (int layer = 0; layer < 4; layer++) {
            // Two loose islands, but one layer.
            Drawing.add(x, layer, "#####.#", "###.###", "#######", "##.#.##", "#.###.#", "###.##.",
                    "#####.#");
            Check.due("loose islands", x.layer(layer, 5), 2);
            Check.due("layers", x.count(4), layer + 1);
        }
        // A layer with an island that is tied is none.
        Drawing.add(x, 0, "#######", "#######", "#######", "###.###", "#######", "#######", "#######");
        Check.due("tied", x.count(4), 3);
    }

    private static void countImages() {
        Check.sentence("5 the kept images (1 if the first one is kept, plus 2 if the second one is)");
        StencilCuts first = new StencilCuts();
        Check.due("none", first.count(5), 0);
        first.image(0);
        Check.due("the first", first.count(5), 1);
        first.image(0);
        Check.due("the first again", first.count(5), 1);
        first.image(1);
        Check.due("both", first.count(5), 3);
        first.restore(0);
        Check.due("both after restore", first.count(5), 3);
        StencilCuts second = new StencilCuts();
        second.image(1);
        Check.due("the second", second.count(5), 2);
        second.sheet(3, 3);
        Check.due("the second after sheet", second.count(5), 2);
    }

    private static void countRefused() {
        Check.sentence("Returns the count; OUTSIDE if what is out of range.");
        StencilCuts x = new StencilCuts();
        for (int what : new int[] {LOW, -6, -1, 6, 7, 100, HIGH}) {
            Check.due("count " + what, x.count(what), OUTSIDE);
        }
    }
}
