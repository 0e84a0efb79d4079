import java.util.Random;

/**
 * What "Description" says of the class as a whole, on seeded sheets: the answers of the face are
 * held against each other and against the drawing, without a second version of the class.
 */
public final class WholeTest {
    private static final int NONE = -6;
    private static final int LAYER = 2;
    private static final int[] ORDERS = {
        123, 132, 213, 231, 312, 321, 1023, 1032, 1203, 1230, 1302, 1320,
        2013, 2031, 2103, 2130, 2301, 2310, 3012, 3021, 3102, 3120, 3201, 3210};

    private static int islandsSeen = 0;
    private static int looseSeen = 0;

    public static void main(String[] args) {
        for (int seed = 0; seed < 600; seed++) {
            Random random = new Random(seed);
            int wide = 3 + random.nextInt(8);
            int high = 3 + random.nextInt(8);
            String[] drawing = draw(random, wide, high);
            String name = "sheet " + seed;
            islands(name, drawing);
            straightBridges(name, drawing);
            bridgesApart(name, drawing);
            bridgedLayerHolds(name, drawing);
            wayOfTheKnife(name, drawing);
        }
        Check.holds("sheets with islands: " + islandsSeen, islandsSeen > 100);
        Check.holds("sheets with loose islands: " + looseSeen, looseSeen > 10);
        for (int seed = 0; seed < 150; seed++) {
            paintedOneAfterTheOther("picture " + seed, new Random(seed));
        }
        wishOfOneCell();
        Check.finish();
    }

    /** Rings, lattices and bars with some noise: '#' is an open cell. */
    private static String[] draw(Random random, int wide, int high) {
        String[] lines = new String[high];
        int shape = random.nextInt(5);
        int noise = 4 + random.nextInt(20);
        for (int y = 0; y < high; y++) {
            StringBuilder line = new StringBuilder();
            for (int x = 0; x < wide; x++) {
                int ring = Math.min(Math.min(x, wide - 1 - x), Math.min(y, high - 1 - y));
                boolean open = switch (shape) {
                    case 0 -> ring % 2 == 0;
                    case 1 -> ring % 2 == 1;
                    case 2 -> x % 3 != 1 || y % 3 != 1;
                    case 3 -> x % 2 == 0 || y % 2 == 0;
                    default -> random.nextInt(10) < 7;
                };
                line.append(open ^ random.nextInt(noise) == 0 ? '#' : '.');
            }
            lines[y] = line.toString();
        }
        return lines;
    }

    private static boolean isOpen(String[] drawing, int x, int y) {
        return y >= 0 && y < drawing.length && x >= 0 && x < drawing[y].length()
                && drawing[y].charAt(x) == '#';
    }

    /** The closed cells from which one gets to the border by closed cells alone. */
    private static boolean[][] held(String[] drawing) {
        int high = drawing.length;
        int wide = drawing[0].length();
        boolean[][] held = new boolean[high][wide];
        for (boolean more = true; more;) {
            more = false;
            for (int y = 0; y < high; y++) {
                for (int x = 0; x < wide; x++) {
                    boolean border = x == 0 || y == 0 || x == wide - 1 || y == high - 1;
                    boolean reached = !isOpen(drawing, x, y) && (border || held[y - 1][x]
                            || held[y + 1][x] || held[y][x - 1] || held[y][x + 1]);
                    more |= reached && !held[y][x];
                    held[y][x] |= reached;
                }
            }
        }
        return held;
    }

    private static void islands(String name, String[] drawing) {
        Check.sentence("Parts of a stencil that are surrounded by openings would fall out. The class"
                + " finds these islands");
        StencilCuts stencil = Drawing.of(LAYER, drawing);
        boolean[][] held = held(drawing);
        int highest = -1;
        int cells = 0;
        for (int y = 0; y < drawing.length; y++) {
            for (int x = 0; x < drawing[y].length(); x++) {
                int island = stencil.cell(LAYER, x, y, 1);
                boolean falls = !isOpen(drawing, x, y) && !held[y][x];
                Check.holds(name + " (" + x + ", " + y + ")", falls == (island != NONE));
                // A new island's number is the next one, for cells come in their order here.
                Check.holds(name + " number " + island, island <= highest + 1);
                highest = Math.max(highest, island);
                cells += falls ? 1 : 0;
            }
        }
        Check.due(name + " islands", stencil.layer(LAYER, 1), highest + 1);
        for (int i = 0; i <= highest; i++) {
            cells -= stencil.island(LAYER, i, 0);
        }
        Check.due(name + " cells beyond those of the islands", cells, 0);
        islandsSeen += highest >= 0 ? 1 : 0;
        looseSeen += stencil.layer(LAYER, 5) > 0 ? 1 : 0;
    }

    private static void straightBridges(String name, String[] drawing) {
        Check.sentence("ties them with straight bridges that are as short as possible");
        StencilCuts stencil = Drawing.of(LAYER, drawing);
        int bridges = stencil.layer(LAYER, 3);
        int before = 1;
        for (int b = 0; b < bridges; b++) {
            int length = stencil.bridge(LAYER, b, 2);
            Check.holds(name + " bridge " + b + " is not shorter than the one before",
                    length >= before);
            before = length;
            int down = stencil.bridge(LAYER, b, 3);
            int x = stencil.bridge(LAYER, b, 0);
            int y = stencil.bridge(LAYER, b, 1);
            end(name, stencil, drawing, x - (1 - down), y - down, stencil.bridge(LAYER, b, 4));
            for (int k = 0; k < length; k++) {
                Check.holds(name + " bridge " + b + " over an opening", isOpen(drawing, x, y));
                Check.due(name + " bridge at " + x + ", " + y, stencil.cell(LAYER, x, y, 3), b);
                x += 1 - down;
                y += down;
            }
            end(name, stencil, drawing, x, y, stencil.bridge(LAYER, b, 5));
        }
        if (stencil.layer(LAYER, 5) == 0) {
            Check.due(name + " bridges that tie all islands", bridges, stencil.layer(LAYER, 1));
            Check.holds(name + " lower bound", stencil.layer(LAYER, 6) <= stencil.layer(LAYER, 4));
        }
    }

    private static void end(String name, StencilCuts stencil, String[] drawing, int x, int y, int end) {
        boolean inside = y >= 0 && y < drawing.length && x >= 0 && x < drawing[0].length();
        Check.holds(name + " end " + x + ", " + y + " is closed", !isOpen(drawing, x, y));
        Check.due(name + " end " + x + ", " + y, end,
                inside ? stencil.cell(LAYER, x, y, 1) : NONE);
    }

    /** The number of the bridge at each cell. */
    private static int[][] bridgesOf(StencilCuts stencil, String[] drawing) {
        int[][] found = new int[drawing.length][drawing[0].length()];
        for (int y = 0; y < found.length; y++) {
            for (int x = 0; x < found[y].length; x++) {
                found[y][x] = stencil.cell(LAYER, x, y, 3);
            }
        }
        return found;
    }

    private static void bridgesApart(String name, String[] drawing) {
        Check.sentence("and do not touch one another");
        StencilCuts stencil = Drawing.of(LAYER, drawing);
        int[][] bridge = bridgesOf(stencil, drawing);
        int cells = 0;
        for (int y = 0; y < bridge.length; y++) {
            for (int x = 0; x < bridge[y].length; x++) {
                int right = x + 1 < bridge[y].length ? bridge[y][x + 1] : NONE;
                int below = y + 1 < bridge.length ? bridge[y + 1][x] : NONE;
                for (int next : new int[] {right, below}) {
                    Check.holds(name + " bridges at " + x + ", " + y, bridge[y][x] == NONE
                            || next == NONE || bridge[y][x] == next);
                }
                cells += bridge[y][x] == NONE ? 0 : 1;
            }
        }
        Check.due(name + " cells of bridges", stencil.layer(LAYER, 4), cells);
    }

    private static String[] closeBridges(StencilCuts stencil, String[] drawing) {
        int[][] bridge = bridgesOf(stencil, drawing);
        String[] bridged = new String[drawing.length];
        for (int y = 0; y < bridged.length; y++) {
            StringBuilder line = new StringBuilder(drawing[y]);
            for (int x = 0; x < line.length(); x++) {
                line.setCharAt(x, bridge[y][x] == NONE ? line.charAt(x) : '.');
            }
            bridged[y] = line.toString();
        }
        return bridged;
    }

    /** A stencil cut as the bridged layer is has no islands left, if none is loose. */
    private static void bridgedLayerHolds(String name, String[] drawing) {
        Check.sentence("The bridged layer is the layer in which all cells of bridges are closed and"
                + " everything else is as it is.");
        StencilCuts stencil = Drawing.of(LAYER, drawing);
        if (stencil.layer(LAYER, 5) > 0) {
            return;
        }
        StencilCuts bridged = Drawing.of(LAYER, closeBridges(stencil, drawing));
        Check.due(name + " islands that are left", bridged.layer(LAYER, 1), 0);
        for (int what = 0; what < 3; what++) {
            Check.due(name + " knife " + what, stencil.knife(LAYER, what), bridged.knife(LAYER, what));
        }
        int loops = stencil.knife(LAYER, 1);
        for (int k = 0; k <= loops; k++) {
            for (int what = 0; what < 4; what++) {
                Check.due(name + " loop " + k + ", " + what, stencil.loop(LAYER, k, what),
                        bridged.loop(LAYER, k, what));
            }
        }
    }

    private static void wayOfTheKnife(String name, String[] drawing) {
        Check.sentence("plans the path of the knife around all openings");
        StencilCuts stencil = Drawing.of(LAYER, drawing);
        Check.due(name + " edges", stencil.knife(LAYER, 0), sides(closeBridges(stencil, drawing)));
        Check.sentence("Returns a property of a loop, in the order in which the knife cuts them.");
        int loops = stencil.knife(LAYER, 1);
        boolean[] isCut = new boolean[loops];
        int edges = 0;
        int way = 0;
        int x = 0;
        int y = 0;
        for (int k = 0; k < loops; k++) {
            int number = stencil.loop(LAYER, k, 0);
            boolean fits = number >= 0 && number < loops && !isCut[number];
            Check.holds(name + " loop " + number + " is cut once", fits);
            if (fits) {
                isCut[number] = true;
            }
            edges += stencil.loop(LAYER, k, 1);
            way += Math.abs(stencil.loop(LAYER, k, 2) - x) + Math.abs(stencil.loop(LAYER, k, 3) - y);
            x = stencil.loop(LAYER, k, 2);
            y = stencil.loop(LAYER, k, 3);
        }
        Check.due(name + " edges of all loops", edges, stencil.knife(LAYER, 0));
        Check.due(name + " air path", stencil.knife(LAYER, 2), way);
    }

    /** The sides between an open cell and a closed one or the frame. */
    private static int sides(String[] drawing) {
        int found = 0;
        for (int y = -1; y < drawing.length; y++) {
            for (int x = -1; x < drawing[0].length(); x++) {
                found += isOpen(drawing, x, y) != isOpen(drawing, x + 1, y) ? 1 : 0;
                found += isOpen(drawing, x, y) != isOpen(drawing, x, y + 1) ? 1 : 0;
            }
        }
        return found;
    }

    /** Paints the layers one after the other, and looks how far that is from the wishes. */
    private static void paintedOneAfterTheOther(String name, Random random) {
        int wide = 3 + random.nextInt(5);
        int high = 3 + random.nextInt(5);
        StencilCuts stencil = new StencilCuts();
        stencil.sheet(wide, high);
        boolean[][] takesPaint = new boolean[4][wide * high];
        int[] wishes = new int[wide * high];
        for (int layer = 0; layer < 4; layer++) {
            String[] drawing = draw(random, wide, high);
            Drawing.add(stencil, layer, drawing);
            for (int k = 0; k < wide * high; k++) {
                takesPaint[layer][k] = isOpen(drawing, k % wide, k / wide)
                        && stencil.cell(layer, k % wide, k / wide, 3) == NONE;
            }
        }
        for (int k = 0; k < wide * high; k++) {
            wishes[k] = random.nextInt(5);
            stencil.wish(k % wide, k / wide, wishes[k]);
        }
        Check.sentence("Counts the cells that are wrong by an order.");
        int best = stencil.best(0);
        int fewest = stencil.best(1);
        for (int order : ORDERS) {
            int wrong = differences(paintedBy(order, takesPaint), wishes);
            Check.due(name + " wrong " + order, stencil.wrong(order), wrong);
            Check.holds(name + " " + order + " is not nearer", wrong > fewest
                    || wrong == fewest && order >= best);
        }
        Check.sentence("0 the best order, as a number; 1 the number of wrong cells by it");
        Check.due(name + " best", fewest, stencil.wrong(best));
        Check.sentence("finds the order of the layers by which painting them one after the other"
                + " comes nearest to a wished picture");
        int[] painted = paintedBy(best, takesPaint);
        for (int k = 0; k < wide * high; k++) {
            Check.due(name + " colour " + k, stencil.paint(k % wide, k / wide), painted[k]);
        }
    }

    private static int[] paintedBy(int order, boolean[][] takesPaint) {
        int[] colours = new int[takesPaint[0].length];
        for (int digit = 1000; digit > 0; digit /= 10) {
            int layer = order / digit % 10;
            for (int k = 0; k < colours.length; k++) {
                colours[k] = takesPaint[layer][k] ? layer + 1 : colours[k];
            }
        }
        return colours;
    }

    private static int differences(int[] colours, int[] wishes) {
        int found = 0;
        for (int k = 0; k < colours.length; k++) {
            found += colours[k] == wishes[k] ? 0 : 1;
        }
        return found;
    }

    private static void wishOfOneCell() {
        Check.sentence("Sets the wish of a cell.");
        StencilCuts stencil = new StencilCuts();
        stencil.sheet(10, 10);
        int wished = 0;
        for (int k = 0; k < 100; k++) {
            Check.due("wish " + k + " before", stencil.wish(k % 10, k / 10, k * 3 % 5), 0);
            wished += k * 3 % 5 > 0 ? 1 : 0;
            Check.due("wishes up to " + k, stencil.count(3), wished);
        }
        for (int k = 99; k >= 0; k--) {
            Check.due("wish " + k, stencil.wish(k % 10, k / 10, 0), k * 3 % 5);
        }
        Check.due("no wishes", stencil.count(3), 0);
    }
}
