/** Sheets drawn as lines of text: '#' is an open cell, '.' a closed one. */
final class Drawing {
    private Drawing() {
    }

    /** A new object whose sheet has the size of the drawing, which is in the layer. */
    static StencilCuts of(int layer, String... lines) {
        StencilCuts x = new StencilCuts();
        x.sheet(lines[0].length(), lines.length);
        add(x, layer, lines);
        return x;
    }

    static void add(StencilCuts x, int layer, String... lines) {
        for (int y = 0; y < lines.length; y++) {
            int bits = 0;
            for (int column = 0; column < lines[y].length(); column++) {
                bits |= lines[y].charAt(column) == '#' ? 1 << column : 0;
            }
            x.row(layer, y, bits);
        }
    }

    /** A new object with a sheet of this size on which all cells of the layer are open. */
    static StencilCuts full(int layer, int wide, int high) {
        StencilCuts x = new StencilCuts();
        x.sheet(wide, high);
        for (int y = 0; y < high; y++) {
            x.row(layer, y, 1023);
        }
        return x;
    }
}
