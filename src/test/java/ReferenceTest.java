import java.util.Arrays;
import java.util.Random;

/** Compares the class with the plain reference, over seeded runs of at most 512 calls. */
public final class ReferenceTest {
    private static final int[] ODD = {Integer.MIN_VALUE, -7, -6, -2, -1, 4, 5, 6, 7, 8, 9, 10, 11,
        12, 100, 1023, 1024, Integer.MAX_VALUE};

    private static final int LAST_CALL = 512;
    private static final int EDGE_SHAPES = 8;

    private final Random random;
    private final StencilCuts real = new StencilCuts();
    private final Reference plain = new Reference();
    private final String name;
    private int calls = 0;

    private ReferenceTest(String name, long seed) {
        this.name = name;
        random = new Random(seed);
    }

    public static void main(String[] args) {
        for (int seed = 0; seed < 400 && Check.wrongSoFar() < 20; seed++) {
            new ReferenceTest("random run " + seed, seed).mixedRun();
        }
        for (int seed = 0; seed < 400 && Check.wrongSoFar() < 20; seed++) {
            new ReferenceTest("shaped run " + seed, 1000 + seed).shapedRun();
        }
        for (int bits = 0; bits < 512 && Check.wrongSoFar() < 20; bits++) {
            new ReferenceTest("3 by 3 sheet " + bits, bits).smallRun(3, bits);
        }
        for (int bits = 0; bits < 1 << 16 && Check.wrongSoFar() < 20; bits += 61) {
            new ReferenceTest("4 by 4 sheet " + bits, bits).smallRun(4, bits);
        }
        for (int shape = 0; shape < EDGE_SHAPES * 64 && Check.wrongSoFar() < 20; shape++) {
            int wide = 3 + shape % 8;
            int high = 3 + shape / 8 % 8;
            new ReferenceTest("edge shape " + shape, shape).edgeRun(wide, high, shape / 64);
        }
        Check.finish();
    }

    private int between(int low, int high) {
        return low + random.nextInt(high - low + 1);
    }

    /** Mostly a value from low to high, and now and then one from far or just outside. */
    private int near(int low, int high) {
        int dice = random.nextInt(40);
        return dice == 0 ? ODD[random.nextInt(ODD.length)] : dice == 1 ? high + 1
                : dice == 2 ? low - 1 : between(low, high);
    }

    private int call(String method, int... a) {
        int got;
        int want;
        switch (method) {
            case "sheet" -> { got = real.sheet(a[0], a[1]); want = plain.sheet(a[0], a[1]); }
            case "cut" -> { got = real.cut(a[0], a[1], a[2], a[3]); want = plain.cut(a[0], a[1], a[2], a[3]); }
            case "row" -> { got = real.row(a[0], a[1], a[2]); want = plain.row(a[0], a[1], a[2]); }
            case "wish" -> { got = real.wish(a[0], a[1], a[2]); want = plain.wish(a[0], a[1], a[2]); }
            case "cell" -> { got = real.cell(a[0], a[1], a[2], a[3]); want = plain.cell(a[0], a[1], a[2], a[3]); }
            case "layer" -> { got = real.layer(a[0], a[1]); want = plain.layer(a[0], a[1]); }
            case "island" -> { got = real.island(a[0], a[1], a[2]); want = plain.island(a[0], a[1], a[2]); }
            case "bridge" -> { got = real.bridge(a[0], a[1], a[2]); want = plain.bridge(a[0], a[1], a[2]); }
            case "knife" -> { got = real.knife(a[0], a[1]); want = plain.knife(a[0], a[1]); }
            case "loop" -> { got = real.loop(a[0], a[1], a[2]); want = plain.loop(a[0], a[1], a[2]); }
            case "paint" -> { got = real.paint(a[0], a[1]); want = plain.paint(a[0], a[1]); }
            case "wrong" -> { got = real.wrong(a[0]); want = plain.wrong(a[0]); }
            case "best" -> { got = real.best(a[0]); want = plain.best(a[0]); }
            case "image" -> { got = real.image(a[0]); want = plain.image(a[0]); }
            case "restore" -> { got = real.restore(a[0]); want = plain.restore(a[0]); }
            case "count" -> { got = real.count(a[0]); want = plain.count(a[0]); }
            default -> throw new IllegalArgumentException(method);
        }
        calls++;
        Check.due(name + ", call " + calls + ": " + method + Arrays.toString(a), got, want);
        return got;
    }

    private void mixedRun() {
        call("sheet", between(3, 10), between(3, 10));
        while (calls < LAST_CALL - 2) {
            change();
            ask();
            ask();
        }
        while (calls < LAST_CALL) {
            ask();
        }
    }

    private void change() {
        int w = plain.s.w;
        int h = plain.s.h;
        switch (random.nextInt(12)) {
            case 0, 1, 2, 3 -> call("row", near(0, 3), near(0, h - 1), random.nextInt(15) == 0
                    ? near(0, 1023) : random.nextInt(1024) | random.nextInt(1024));
            case 4, 5, 6 -> call("cut", near(0, 3), near(0, w - 1), near(0, h - 1), near(0, 1));
            case 7, 8 -> call("wish", near(0, w - 1), near(0, h - 1), near(0, 4));
            case 9 -> call("image", near(0, 1));
            case 10 -> call("restore", near(0, 1));
            default -> {
                if (random.nextInt(4) == 0) {
                    call("sheet", near(3, 10), near(3, 10));
                }
            }
        }
    }

    private void ask() {
        int w = plain.s.w;
        int h = plain.s.h;
        switch (random.nextInt(10)) {
            case 0 -> call("cell", near(0, 3), near(0, w - 1), near(0, h - 1), near(0, 3));
            case 1 -> call("layer", near(0, 3), near(0, 7));
            case 2 -> call("island", near(0, 3), near(0, 5), near(0, 5));
            case 3 -> call("bridge", near(0, 3), near(0, 5), near(0, 5));
            case 4 -> call("knife", near(0, 3), near(0, 2));
            case 5 -> call("loop", near(0, 3), near(0, 6), near(0, 3));
            case 6 -> call("paint", near(0, w - 1), near(0, h - 1));
            case 7 -> call("wrong", near(0, 3) * 1000 + near(0, 3) * 100 + near(0, 3) * 10 + near(0, 3));
            case 8 -> call("best", near(0, 2));
            default -> call("count", near(0, 5));
        }
    }

    /** Rings, lattices and noise on one sheet, then everything that can be asked of one layer. */
    private void shapedRun() {
        call("sheet", between(3, 10), between(3, 10));
        for (int layer = 0; layer < 4; layer++) {
            int shape = random.nextInt(4);
            int noise = random.nextInt(3) == 0 ? 0 : between(4, 20);
            for (int y = 0; y < plain.s.h; y++) {
                call("row", layer, y, shapedLine(shape, y, noise));
            }
        }
        for (int k = 0; k < 30; k++) {
            call("wish", between(0, plain.s.w - 1), between(0, plain.s.h - 1), between(0, 4));
        }
        askAllOf(random.nextInt(4));
        for (int k = 0; k < 25; k++) {
            call("paint", between(0, plain.s.w - 1), between(0, plain.s.h - 1));
        }
        for (int what = 0; what < 3; what++) {
            call("best", what);
        }
        call("count", 4);
    }

    private int shapedLine(int shape, int y, int noise) {
        int w = plain.s.w;
        int h = plain.s.h;
        int bits = 0;
        for (int x = 0; x < w; x++) {
            int ring = Math.min(Math.min(x, w - 1 - x), Math.min(y, h - 1 - y));
            boolean open = switch (shape) {
                case 0 -> ring % 2 == 0;
                case 1 -> ring % 2 == 1;
                case 2 -> x % 2 == 0 || y % 2 == 0;
                default -> random.nextInt(10) < 7;
            };
            if (noise > 0 && random.nextInt(noise) == 0) {
                open = !open;
            }
            bits |= open ? 1 << x : 0;
        }
        return bits;
    }

    private void askAllOf(int layer) {
        for (int what = 0; what < 8; what++) {
            call("layer", layer, what);
        }
        int islands = Math.min(plain.layer(layer, 1), 8);
        for (int i = -1; i <= islands; i++) {
            for (int what = 0; what < 6; what++) {
                call("island", layer, i, what);
            }
        }
        int bridges = Math.min(plain.layer(layer, 3), 8);
        for (int b = -1; b <= bridges; b++) {
            for (int what = 0; what < 6; what++) {
                call("bridge", layer, b, what);
            }
        }
        for (int what = 0; what < 3; what++) {
            call("knife", layer, what);
        }
        int loops = Math.min(plain.knife(layer, 1), 8);
        for (int k = -1; k <= loops; k++) {
            for (int what = 0; what < 4; what++) {
                call("loop", layer, k, what);
            }
        }
        for (int k = 0; k < 60; k++) {
            call("cell", layer, between(0, plain.s.w - 1), between(0, plain.s.h - 1), between(0, 3));
        }
    }

    /** Empty, full, chequered, rings, stripes: on a sheet of each size. */
    private void edgeRun(int wide, int high, int shape) {
        call("sheet", wide, high);
        for (int y = 0; y < high; y++) {
            int bits = 0;
            for (int x = 0; x < wide; x++) {
                bits |= isOpen(shape, wide, high, x, y) ? 1 << x : 0;
            }
            call("row", 1, y, bits);
        }
        askAllOf(1);
        call("count", 4);
        call("best", 1);
        call("paint", wide - 1, high - 1);
        call("knife", 1, 2);
    }

    private static boolean isOpen(int shape, int wide, int high, int x, int y) {
        int ring = Math.min(Math.min(x, wide - 1 - x), Math.min(y, high - 1 - y));
        return switch (shape) {
            case 0 -> false;
            case 1 -> true;
            case 2, 3 -> (x + y + shape) % 2 == 0;
            case 4, 5 -> (ring + shape) % 2 == 0;
            case 6 -> y % 2 == 0;
            default -> x % 2 == 0 || y % 2 == 0;
        };
    }

    private void smallRun(int side, int bits) {
        call("sheet", side, side);
        for (int y = 0; y < side; y++) {
            call("row", 3, y, bits >> y * side & (1 << side) - 1);
        }
        askAllOf(3);
    }
}
