/** Calls a method of the face by its name, so that tests can go through tables of calls. */
final class Face {
    private Face() {
    }

    static int call(StencilCuts x, String method, int... a) {
        return switch (method) {
            case "sheet" -> x.sheet(a[0], a[1]);
            case "cut" -> x.cut(a[0], a[1], a[2], a[3]);
            case "row" -> x.row(a[0], a[1], a[2]);
            case "wish" -> x.wish(a[0], a[1], a[2]);
            case "cell" -> x.cell(a[0], a[1], a[2], a[3]);
            case "layer" -> x.layer(a[0], a[1]);
            case "island" -> x.island(a[0], a[1], a[2]);
            case "bridge" -> x.bridge(a[0], a[1], a[2]);
            case "knife" -> x.knife(a[0], a[1]);
            case "loop" -> x.loop(a[0], a[1], a[2]);
            case "paint" -> x.paint(a[0], a[1]);
            case "wrong" -> x.wrong(a[0]);
            case "best" -> x.best(a[0]);
            case "image" -> x.image(a[0]);
            case "restore" -> x.restore(a[0]);
            case "count" -> x.count(a[0]);
            default -> throw new IllegalArgumentException(method);
        };
    }
}
