/**
 * A sheet of 4 by 3 cells with something of everything on it, and all that can be asked of it:
 * making it and asking all stay below the 512 calls that an object is used for.
 */
final class Sample {
    static final int WIDE = 4, HIGH = 3;

    private Sample() {
    }

    /** One island with its bridge, several holes and loops, wishes, and the first image kept. */
    static StencilCuts make() {
        StencilCuts x = new StencilCuts();
        x.sheet(3, 5);
        x.row(3, 4, 5);
        x.wish(2, 4, 4);
        x.image(0);
        x.sheet(WIDE, HIGH);
        Drawing.add(x, 0, "####", "#.##", "####");
        Drawing.add(x, 1, "##..", "....", "..##");
        x.cut(2, 3, 2, 1);
        x.wish(0, 0, 2);
        x.wish(3, 2, 3);
        x.wish(2, 1, 1);
        return x;
    }

    /** All that can be asked without a change, as one text. */
    static String ask(StencilCuts x) {
        StringBuilder all = new StringBuilder();
        for (int layer = 0; layer < 4; layer++) {
            askLayer(x, layer, all);
        }
        for (int k = 0; k < WIDE * HIGH; k++) {
            all.append(x.paint(k % WIDE, k / WIDE)).append(' ');
        }
        all.append(x.wrong(123)).append(' ').append(x.wrong(3210)).append(' ');
        for (int what = 0; what < 3; what++) {
            all.append(x.best(what)).append(' ');
        }
        for (int what = 0; what < 6; what++) {
            all.append(x.count(what)).append(' ');
        }
        return all.toString();
    }

    private static void askLayer(StencilCuts x, int layer, StringBuilder all) {
        for (int k = 0; k < WIDE * HIGH; k++) {
            for (int what = 0; what < 4; what++) {
                all.append(x.cell(layer, k % WIDE, k / WIDE, what)).append(' ');
            }
        }
        for (int what = 0; what < 8; what++) {
            all.append(x.layer(layer, what)).append(' ');
        }
        for (int what = 0; what < 6; what++) {
            all.append(x.island(layer, 0, what)).append(' ');
            all.append(x.bridge(layer, 0, what)).append(' ');
        }
        for (int what = 0; what < 3; what++) {
            all.append(x.knife(layer, what)).append(' ');
        }
        for (int what = 0; what < 4; what++) {
            all.append(x.loop(layer, 0, what)).append(' ').append(x.loop(layer, 1, what)).append(' ');
        }
        all.append('\n');
    }

    /** What is asked by changing it: the wishes, and then what the images keep. */
    static String empty(StencilCuts x) {
        StringBuilder all = new StringBuilder();
        for (int k = 0; k < WIDE * HIGH; k++) {
            all.append(x.wish(k % WIDE, k / WIDE, 0)).append(' ');
        }
        for (int image = 0; image < 2; image++) {
            all.append(x.restore(image)).append(' ');
            for (int what = 0; what < 6; what++) {
                all.append(x.count(what)).append(' ');
            }
            for (int layer = 0; layer < 4; layer++) {
                all.append(x.layer(layer, 0)).append(' ');
            }
            all.append(x.cell(3, 0, 4, 0)).append(' ').append(x.wish(2, 4, 0)).append(' ');
        }
        return all.toString();
    }
}
