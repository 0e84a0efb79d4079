import java.util.ArrayList;
import java.util.List;
import java.util.Random;

/** The sentences under PAINTING, and those of promises 12 to 14. */
public final class PaintingTest {
    private static final int OUTSIDE = -2;
    private static final int LOW = Integer.MIN_VALUE, HIGH = Integer.MAX_VALUE;

    // All orders as texts of four layers, the smallest first.
    private static final List<String> ORDERS = orders();

    // For each two orders that follow one another, cells by which these two are the smallest of the
    // best ones: the smaller order, then the set of open layers and the wish of each cell.
    private static final int[][] TIES = {
        {123, 6, 3, 6, 3}, {132, 7, 2, 15, 3}, {213, 7, 2, 7, 2}, {231, 10, 2, 9, 4},
        {312, 13, 3, 11, 2}, {321, 15, 2, 3, 1, 12, 3, 14, 4}, {1023, 3, 1, 5, 3},
        {1032, 13, 3, 5, 1, 3, 1}, {1203, 3, 1, 5, 1}, {1230, 9, 1, 3, 1}, {1302, 9, 1, 14, 3},
        {1320, 5, 1, 6, 2, 14, 3}, {2013, 5, 1, 3, 2}, {2031, 3, 1, 15, 2, 5, 1, 6, 2},
        {2103, 7, 1, 6, 2}, {2130, 9, 1, 6, 2}, {2301, 14, 2, 9, 1},
        {2310, 10, 2, 9, 1, 5, 3, 7, 1}, {3012, 12, 3, 3, 2, 9, 1},
        {3021, 12, 3, 11, 1, 10, 2, 7, 2, 9, 1}, {3102, 10, 2, 14, 3, 3, 1},
        {3120, 5, 1, 12, 3, 10, 2}, {3201, 6, 2, 5, 1, 12, 3}};

    public static void main(String[] args) {
        numbersThatAreOrders();
        firstLayerIsTheFirstDigit();
        colourOfEachSet();
        openInNone();
        bridgesTakeNoPaint();
        wishesAtFirst();
        noneWrongAndAllWrong();
        eachOrderCanBeBest();
        smallestOfSeveral();
        smallestOfTwo();
        smallestOfNeighbours();
        bestOfAllOrders();
        notMoreCellsWrong();
        paintByTheBestOrder();
        refused();
        Check.finish();
    }

    private static List<String> orders() {
        List<String> found = new ArrayList<>();
        for (int n = 0; n < 10000; n++) {
            String digits = String.format("%04d", n);
            boolean each = true;
            for (char layer = '0'; layer <= '3'; layer++) {
                each &= digits.indexOf(layer) >= 0;
            }
            if (each) {
                found.add(digits);
            }
        }
        return found;
    }

    private static int numberOf(String order) {
        return Integer.parseInt(order);
    }

    private static int layerAt(String order, int k) {
        return order.charAt(k) - '0';
    }

    private static void numbersThatAreOrders() {
        Check.sentence("An order contains each layer once.");
        Check.due("orders", ORDERS.size(), 24);
        for (int from = -20000; from < 50000; from += 500) {
            StencilCuts x = new StencilCuts();
            for (int n = from; n < from + 500; n++) {
                boolean order = n >= 0 && n < 10000 && ORDERS.contains(String.format("%04d", n));
                Check.due("wrong " + n, x.wrong(n), order ? 0 : OUTSIDE);
            }
        }
        for (int n : new int[] {LOW, LOW + 123, -3210, -123, 123 + (1 << 16), 123 + (1 << 30), HIGH}) {
            Check.due("wrong " + n, new StencilCuts().wrong(n), OUTSIDE);
        }
    }

    private static void firstLayerIsTheFirstDigit() {
        Check.sentence("An order is written as a number with four decimal digits, of which the first"
                + " one (the most significant one) is the first layer; for example, the order 0, 1, 2,"
                + " 3 is the number 123.");
        // All layers are open at (0, 0): the last layer, which is the last digit, gives the colour.
        for (String order : ORDERS) {
            for (int wish = 0; wish <= 4; wish++) {
                StencilCuts x = oneCell(15, wish);
                Check.due("wrong " + order + ", wish " + wish, x.wrong(numberOf(order)),
                        wish == layerAt(order, 3) + 1 ? 0 : 1);
            }
        }
    }

    /** The first cell is open in these layers, a bit each, and has this wish. */
    private static StencilCuts oneCell(int layers, int wish) {
        StencilCuts x = new StencilCuts();
        for (int layer = 0; layer < 4; layer++) {
            x.cut(layer, 0, 0, layers >> layer & 1);
        }
        x.wish(0, 0, wish);
        return x;
    }

    private static void colourOfEachSet() {
        Check.sentence("The colour of a cell by an order is 1 plus the number of the last layer in it"
                + " in whose bridged layer the cell is open, and 0 if it is open in none.");
        for (int layers = 0; layers < 16; layers++) {
            for (int wish = 0; wish <= 4; wish++) {
                StencilCuts x = oneCell(layers, wish);
                for (String order : ORDERS) {
                    int colour = 0;
                    for (int k = 0; k < 4; k++) {
                        if ((layers >> layerAt(order, k) & 1) != 0) {
                            colour = layerAt(order, k) + 1;
                        }
                    }
                    Check.due("layers " + layers + ", wish " + wish + ", order " + order,
                            x.wrong(numberOf(order)), colour == wish ? 0 : 1);
                }
            }
        }
    }

    private static void openInNone() {
        Check.sentence("and 0 if it is open in none");
        Check.due("closed", new StencilCuts().paint(7, 7), 0);
        Check.due("closed, wished", oneCell(0, 4).paint(0, 0), 0);
        Check.due("open in the first layer", oneCell(1, 0).paint(0, 0), 1);
        Check.due("open in the last layer", oneCell(8, 0).paint(0, 0), 4);
    }

    private static void bridgesTakeNoPaint() {
        Check.sentence("the last layer in it in whose bridged layer the cell is open");
        StencilCuts x = Drawing.of(3, "###", "#.#", "###");
        Check.due("the bridge", x.paint(0, 1), 0);
        Check.due("another cell", x.paint(2, 1), 4);
        Check.due("wrong cells", x.best(1), 7);
        // The other layer has no island, so that the same cell is open in its bridged layer.
        x.row(1, 1, 1);
        Check.due("the bridge above another layer", x.paint(0, 1), 2);
        x.wish(0, 1, 2);
        Check.due("is right by each order", x.wrong(123), 7);
        Check.due("by this one, too", x.wrong(3210), 7);
    }

    private static void wishesAtFirst() {
        Check.sentence("Each cell has a wish from 0 to 4, which is 0 at first.");
        StencilCuts x = new StencilCuts();
        for (int k = 0; k < 64; k++) {
            Check.due("first wish", x.wish(k % 8, k / 8, k % 5), 0);
        }
        for (int k = 0; k < 64; k++) {
            Check.due("second wish", x.wish(k % 8, k / 8, 4), k % 5);
        }
        for (int colour : new int[] {LOW, -1, 5, 6, HIGH}) {
            Check.due("colour " + colour, x.wish(3, 3, colour), OUTSIDE);
        }
        Check.due("the wish stays", x.wish(3, 3, 0), 4);
    }

    private static void noneWrongAndAllWrong() {
        Check.sentence("A cell is wrong by an order if its colour is not its wish.");
        StencilCuts none = Drawing.full(2, 10, 10);
        StencilCuts all = Drawing.full(2, 10, 10);
        for (int k = 0; k < 100; k++) {
            none.wish(k % 10, k / 10, 3);
            all.wish(k % 10, k / 10, 2);
        }
        Check.due("none by 123", none.wrong(123), 0);
        Check.due("none by 3210", none.wrong(3210), 0);
        Check.due("none, best", none.best(1), 0);
        Check.due("all by 123", all.wrong(123), 100);
        Check.due("all by 3210", all.wrong(3210), 100);
        Check.due("all, best", all.best(1), 100);
        Check.due("all, best order", all.best(0), 123);
        Check.due("all, orders", all.best(2), 24);
        Check.due("smallest sheet", Drawing.full(0, 3, 3).best(1), 9);
        Check.due("a closed cell is right if nothing is wished", new StencilCuts().best(1), 0);
    }

    private static void eachOrderCanBeBest() {
        Check.sentence("The best order is the one by which the fewest cells are wrong");
        for (String order : ORDERS) {
            // Three cells, each of which wants one layer of the order directly above the one before.
            StencilCuts x = new StencilCuts();
            for (int k = 0; k < 3; k++) {
                x.cut(layerAt(order, k), k, 0, 1);
                x.cut(layerAt(order, k + 1), k, 0, 1);
                x.wish(k, 0, layerAt(order, k + 1) + 1);
            }
            Check.due("best, " + order, x.best(0), numberOf(order));
            Check.due("wrong cells, " + order, x.best(1), 0);
            Check.due("orders, " + order, x.best(2), 1);
            for (int k = 0; k < 3; k++) {
                Check.due("colour, " + order, x.paint(k, 0), layerAt(order, k + 1) + 1);
            }
        }
    }

    private static void smallestOfSeveral() {
        Check.sentence("of several, the lexicographically smallest one");
        Check.due("of all", new StencilCuts().best(0), 123);
        for (int lower = 0; lower < 4; lower++) {
            for (int upper = 0; upper < 4; upper++) {
                if (lower == upper) {
                    continue;
                }
                StencilCuts x = oneCell(1 << lower | 1 << upper, upper + 1);
                String smallest = null;
                for (String order : ORDERS) {
                    boolean fits = order.indexOf('0' + lower) < order.indexOf('0' + upper);
                    smallest = smallest == null && fits ? order : smallest;
                }
                Check.due(lower + " below " + upper, x.best(0), numberOf(smallest));
                Check.due(lower + " below " + upper + ", orders", x.best(2), 12);
            }
        }
        Check.due("3 below 0", oneCell(9, 1).best(0), 1230);
        Check.due("1 below 0", oneCell(3, 1).best(0), 1023);
        Check.due("0 below 1", oneCell(3, 2).best(0), 123);
    }

    /** The first two layers of the order are settled, the other two are as good in either order. */
    private static void smallestOfTwo() {
        Check.sentence("of several, the lexicographically smallest one");
        for (String order : ORDERS) {
            StencilCuts x = new StencilCuts();
            int[][] below = {{0, 1}, {1, 2}, {1, 3}};
            for (int k = 0; k < 3; k++) {
                int lower = layerAt(order, below[k][0]);
                int upper = layerAt(order, below[k][1]);
                x.cut(lower, k, 0, 1);
                x.cut(upper, k, 0, 1);
                x.wish(k, 0, upper + 1);
            }
            String other = order.substring(0, 2) + order.charAt(3) + order.charAt(2);
            Check.due("best of two, " + order, x.best(0), Math.min(numberOf(order), numberOf(other)));
            Check.due("both are as good, " + order, x.best(2), 2);
        }
    }

    private static void smallestOfNeighbours() {
        Check.sentence("of several, the lexicographically smallest one");
        Check.due("ties", TIES.length, ORDERS.size() - 1);
        for (int t = 0; t < TIES.length; t++) {
            StencilCuts x = new StencilCuts();
            for (int k = 1; k < TIES[t].length; k += 2) {
                for (int layer = 0; layer < 4; layer++) {
                    x.cut(layer, k / 2, 0, TIES[t][k] >> layer & 1);
                }
                x.wish(k / 2, 0, TIES[t][k + 1]);
            }
            Check.due("best", x.best(0), TIES[t][0]);
            Check.due("the order", TIES[t][0], numberOf(ORDERS.get(t)));
            Check.due("the next order is as good as " + TIES[t][0],
                    x.wrong(numberOf(ORDERS.get(t + 1))), x.best(1));
        }
    }

    /** What best answers is what wrong says of all orders, the smallest first. */
    private static void bestOfAllOrders() {
        Check.sentence("The best order is the one by which the fewest cells are wrong; of several, the"
                + " lexicographically smallest one.");
        Random random = new Random(14);
        for (int run = 0; run < 400; run++) {
            StencilCuts x = new StencilCuts();
            for (int k = 0; k < 12; k++) {
                x.row(random.nextInt(4), random.nextInt(3), random.nextInt(1024));
                x.wish(random.nextInt(8), random.nextInt(3), random.nextInt(5));
            }
            int least = 65;
            int best = 0;
            int asGood = 0;
            for (String order : ORDERS) {
                int wrong = x.wrong(numberOf(order));
                asGood = wrong < least ? 1 : wrong == least ? asGood + 1 : asGood;
                best = wrong < least ? numberOf(order) : best;
                least = Math.min(least, wrong);
            }
            Check.due("best(0), run " + run, x.best(0), best);
            Check.due("best(1), run " + run, x.best(1), least);
            Check.due("best(2), run " + run, x.best(2), asGood);
        }
    }

    private static void notMoreCellsWrong() {
        Check.sentence("2 the number of orders by which not more cells are wrong");
        Check.due("all orders", new StencilCuts().best(2), 24);
        Check.due("0 as the last layer", oneCell(15, 1).best(2), 6);
        Check.due("3 after 0", oneCell(9, 4).best(2), 12);
        // 0 after 1 and 2: a third of all orders.
        Check.due("0 after 1 and 2", oneCell(7, 1).best(2), 8);
        // No order is right: all are as wrong, so all of them are counted.
        Check.due("an open cell for nothing", oneCell(15, 0).best(2), 24);
        Check.due("its wrong cells", oneCell(15, 0).best(1), 1);
        // Two against one: 0 above 1 twice, 1 above 0 once.
        StencilCuts x = new StencilCuts();
        for (int k = 0; k < 3; k++) {
            x.cut(0, k, 0, 1);
            x.cut(1, k, 0, 1);
            x.wish(k, 0, k < 2 ? 1 : 2);
        }
        Check.due("two against one", x.best(0), 1023);
        Check.due("the one is wrong", x.best(1), 1);
        Check.due("orders", x.best(2), 12);
        Check.due("by the others, two", x.wrong(123), 2);
    }

    private static void paintByTheBestOrder() {
        Check.sentence("Returns the colour of a cell by the best order.");
        StencilCuts x = new StencilCuts();
        x.sheet(3, 3);
        for (int layer = 0; layer < 4; layer++) {
            x.row(layer, 2, 7);
        }
        for (int colour = 1; colour <= 4; colour++) {
            x.wish(2, 2, colour);
            Check.due("the wished one", x.paint(2, 2), colour);
            Check.due("as the best order is", x.paint(0, 2), colour);
            Check.due("a closed cell", x.paint(0, 0), 0);
        }
        x.wish(2, 2, 0);
        Check.due("the smallest order", x.paint(2, 2), 4);
    }

    private static void refused() {
        Check.sentence("Returns the number of wrong cells; OUTSIDE if order is not an order.");
        StencilCuts painted = oneCell(1, 2);
        Check.due("an order", painted.wrong(2310), 1);
        for (int order : new int[] {231, 2311, 2314, 12310, -2310, 0, LOW, HIGH}) {
            Check.due("wrong " + order, painted.wrong(order), order == 231 ? 1 : OUTSIDE);
        }
        Check.sentence("Returns the value; OUTSIDE if what is out of range.");
        StencilCuts x = new StencilCuts();
        for (int what : new int[] {LOW, -1, 3, 4, HIGH}) {
            Check.due("best " + what, x.best(what), OUTSIDE);
        }
        Check.sentence("Returns the colour; OUTSIDE if there is no such cell.");
        x.sheet(10, 3);
        Check.due("the last cell", x.paint(9, 2), 0);
        for (int[] cell : new int[][] {{10, 2}, {9, 3}, {2, 9}, {-1, 0}, {0, -1}, {LOW, 0}, {0, HIGH}}) {
            Check.due("paint " + cell[0] + ", " + cell[1], x.paint(cell[0], cell[1]), OUTSIDE);
        }
    }
}
