/** Checks all values of one thing in a row: the value for what = 0 first, then for 1, and so on. */
final class Due {
    private Due() {
    }

    static void layer(String name, StencilCuts x, int layer, int... due) {
        for (int what = 0; what < due.length; what++) {
            Check.due(name + " layer " + what, x.layer(layer, what), due[what]);
        }
    }

    static void island(String name, StencilCuts x, int layer, int i, int... due) {
        for (int what = 0; what < due.length; what++) {
            Check.due(name + " island " + i + ", " + what, x.island(layer, i, what), due[what]);
        }
    }

    static void bridge(String name, StencilCuts x, int layer, int b, int... due) {
        for (int what = 0; what < due.length; what++) {
            Check.due(name + " bridge " + b + ", " + what, x.bridge(layer, b, what), due[what]);
        }
    }

    static void knife(String name, StencilCuts x, int layer, int... due) {
        for (int what = 0; what < due.length; what++) {
            Check.due(name + " knife " + what, x.knife(layer, what), due[what]);
        }
    }

    static void loop(String name, StencilCuts x, int layer, int k, int... due) {
        for (int what = 0; what < due.length; what++) {
            Check.due(name + " loop " + k + ", " + what, x.loop(layer, k, what), due[what]);
        }
    }
}
