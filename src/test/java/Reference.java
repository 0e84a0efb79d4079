import java.util.ArrayList;
import java.util.Comparator;
import java.util.HashMap;
import java.util.HashSet;
import java.util.List;
import java.util.Map;
import java.util.Set;
import java.util.TreeMap;

/**
 * The document said a second time, as slowly and plainly as it can be: everything is worked out
 * anew after each change, from sets of cells, without the tricks of the class under test.
 */
final class Reference {
    static final int UNKNOWN = -1, OUTSIDE = -2, STATE = -3, NONE = -6;
    static final int FRAME_PIECE = -100;

    static final List<String> ORDERS = allOrders();

    record Cell(int x, int y) {
    }

    record Run(int length, boolean vertical, Cell first, int before, int after) {
        List<Cell> cells() {
            List<Cell> cells = new ArrayList<>();
            for (int k = 0; k < length; k++) {
                cells.add(vertical ? new Cell(first.x, first.y + k) : new Cell(first.x + k, first.y));
            }
            return cells;
        }
    }

    record Edge(Cell from, Cell to) {
    }

    static List<String> allOrders() {
        List<String> orders = new ArrayList<>();
        for (int n = 0; n < 10000; n++) {
            String order = String.format("%04d", n);
            if (order.contains("0") && order.contains("1") && order.contains("2")
                    && order.contains("3")) {
                orders.add(order);
            }
        }
        return orders;
    }

    static final class State {
        int w = 8;
        int h = 8;
        boolean[][][] open = new boolean[4][8][8];
        int[][] wish = new int[8][8];

        State copy() {
            State copy = new State();
            copy.w = w;
            copy.h = h;
            copy.open = new boolean[4][h][w];
            copy.wish = new int[h][w];
            for (int y = 0; y < h; y++) {
                for (int x = 0; x < w; x++) {
                    copy.wish[y][x] = wish[y][x];
                    for (int l = 0; l < 4; l++) {
                        copy.open[l][y][x] = open[l][y][x];
                    }
                }
            }
            return copy;
        }
    }

    State s = new State();
    State[] images = new State[2];
    // Emptied at each call that may change anything, whatever it changes.
    private final Map<Integer, Analysis> known = new HashMap<>();
    private Map<String, Integer> judged = null;

    private void forget() {
        known.clear();
        judged = null;
    }

    private Analysis analyse(int layer) {
        if (!known.containsKey(layer)) {
            known.put(layer, new Analysis(layer));
        }
        return known.get(layer);
    }

    boolean in(int x, int y) {
        return 0 <= x && x < s.w && 0 <= y && y < s.h;
    }

    List<Cell> allCells() {
        List<Cell> cells = new ArrayList<>();
        for (int y = 0; y < s.h; y++) {
            for (int x = 0; x < s.w; x++) {
                cells.add(new Cell(x, y));
            }
        }
        return cells;
    }

    static List<Cell> around(Cell c) {
        return List.of(new Cell(c.x + 1, c.y), new Cell(c.x - 1, c.y),
                new Cell(c.x, c.y + 1), new Cell(c.x, c.y - 1));
    }

    /** Everything about one layer. */
    final class Analysis {
        final boolean[][] open;
        final List<Set<Cell>> islands = new ArrayList<>();
        final List<Set<Cell>> holes = new ArrayList<>();
        final List<Run> runs = new ArrayList<>();
        final List<Run> bridges = new ArrayList<>();
        final List<Set<Integer>> tied;
        final Set<Cell> bridgedOpen = new HashSet<>();
        int lowerBound = 0;
        final List<Edge> edges = new ArrayList<>();
        final List<Set<Cell>> loops = new ArrayList<>();
        final List<Integer> cutOrder = new ArrayList<>();
        final List<Cell> cutAt = new ArrayList<>();
        int air = 0;

        Analysis(int layer) {
            open = s.open[layer];
            findParts();
            findRuns();
            for (Run run : select(true)) {
                lowerBound += run.length;
            }
            bridges.addAll(select(false));
            tied = tiedSets(bridges);
            for (Cell c : allCells()) {
                if (isOpen(c) && bridgeOf(c) == NONE) {
                    bridgedOpen.add(c);
                }
            }
            findEdges();
            findLoops();
            cutAll();
        }

        boolean isOpen(Cell c) {
            return in(c.x, c.y) && open[c.y][c.x];
        }

        void findParts() {
            Set<Cell> seen = new HashSet<>();
            for (Cell c : allCells()) {
                if (seen.contains(c)) {
                    continue;
                }
                Set<Cell> part = new HashSet<>();
                grow(c, part);
                seen.addAll(part);
                boolean border = false;
                for (Cell p : part) {
                    border |= p.x == 0 || p.y == 0 || p.x == s.w - 1 || p.y == s.h - 1;
                }
                if (isOpen(c)) {
                    holes.add(part);
                } else if (!border) {
                    islands.add(part);
                }
            }
        }

        void grow(Cell c, Set<Cell> part) {
            if (!part.add(c)) {
                return;
            }
            for (Cell n : around(c)) {
                if (in(n.x, n.y) && isOpen(n) == isOpen(c)) {
                    grow(n, part);
                }
            }
        }

        int partOf(Cell c, List<Set<Cell>> parts) {
            for (int i = 0; i < parts.size(); i++) {
                if (parts.get(i).contains(c)) {
                    return i;
                }
            }
            return NONE;
        }

        int pieceOf(Cell c) {
            int island = partOf(c, islands);
            return island == NONE ? FRAME_PIECE : island;
        }

        /** Bellman and Ford over the cells: the fewest changes on the way to each of them. */
        int depth(int island) {
            int[][] least = new int[s.h][s.w];
            for (int[] line : least) {
                java.util.Arrays.fill(line, 1000);
            }
            for (int round = 0; round <= s.w * s.h; round++) {
                for (Cell c : allCells()) {
                    for (Cell n : around(c)) {
                        int there = in(n.x, n.y) ? least[n.y][n.x] : 0;
                        int here = there + (isOpen(n) == isOpen(c) ? 0 : 1);
                        least[c.y][c.x] = Math.min(least[c.y][c.x], here);
                    }
                }
            }
            int depth = 1000;
            for (Cell c : islands.get(island)) {
                depth = Math.min(depth, least[c.y][c.x]);
            }
            return depth;
        }

        void findRuns() {
            for (Cell c : allCells()) {
                for (int length = 1; length <= 10; length++) {
                    tryRun(c, length, false);
                    tryRun(c, length, true);
                }
            }
            runs.sort(Comparator.<Run>comparingInt(r -> r.length)
                    .thenComparingInt(r -> r.vertical ? 1 : 0)
                    .thenComparingInt(r -> r.first.y).thenComparingInt(r -> r.first.x));
        }

        void tryRun(Cell c, int length, boolean vertical) {
            int dx = vertical ? 0 : 1;
            int dy = vertical ? 1 : 0;
            Cell before = new Cell(c.x - dx, c.y - dy);
            Cell after = new Cell(c.x + length * dx, c.y + length * dy);
            Run run = new Run(length, vertical, c, pieceOf(before), pieceOf(after));
            for (Cell each : run.cells()) {
                if (!isOpen(each)) {
                    return;
                }
            }
            if (!isOpen(before) && !isOpen(after) && run.before != run.after) {
                runs.add(run);
            }
        }

        List<Set<Integer>> tiedSets(List<Run> ties) {
            List<Set<Integer>> sets = new ArrayList<>();
            sets.add(new HashSet<>(Set.of(FRAME_PIECE)));
            for (int i = 0; i < islands.size(); i++) {
                sets.add(new HashSet<>(Set.of(i)));
            }
            for (Run tie : ties) {
                Set<Integer> one = setOf(tie.before, sets);
                Set<Integer> other = setOf(tie.after, sets);
                if (one != other) {
                    sets.removeIf(set -> set == other);
                    one.addAll(other);
                }
            }
            return sets;
        }

        Set<Integer> setOf(int piece, List<Set<Integer>> sets) {
            for (Set<Integer> set : sets) {
                if (set.contains(piece)) {
                    return set;
                }
            }
            throw new IllegalStateException("no piece " + piece);
        }

        List<Run> select(boolean mayTouch) {
            List<Run> chosen = new ArrayList<>();
            for (Run run : runs) {
                boolean untied = !setOf(run.before, tiedSets(chosen)).contains(run.after);
                if (untied && (mayTouch || !touches(run, chosen))) {
                    chosen.add(run);
                }
            }
            return chosen;
        }

        boolean touches(Run run, List<Run> chosen) {
            for (Run other : chosen) {
                for (Cell a : run.cells()) {
                    for (Cell b : other.cells()) {
                        if (Math.abs(a.x - b.x) + Math.abs(a.y - b.y) <= 1) {
                            return true;
                        }
                    }
                }
            }
            return false;
        }

        int bridgeOf(Cell c) {
            for (int b = 0; b < bridges.size(); b++) {
                if (bridges.get(b).cells().contains(c)) {
                    return b;
                }
            }
            return NONE;
        }

        boolean bridgedOpen(Cell c) {
            return bridgedOpen.contains(c);
        }

        boolean loose(int island) {
            return !setOf(FRAME_PIECE, tied).contains(island);
        }

        int looseIslands() {
            int loose = 0;
            for (int i = 0; i < islands.size(); i++) {
                loose += loose(i) ? 1 : 0;
            }
            return loose;
        }

        void findEdges() {
            for (Cell c : allCells()) {
                if (!bridgedOpen(c)) {
                    continue;
                }
                Cell nw = c;
                Cell ne = new Cell(c.x + 1, c.y);
                Cell sw = new Cell(c.x, c.y + 1);
                Cell se = new Cell(c.x + 1, c.y + 1);
                addEdge(new Cell(c.x, c.y - 1), nw, ne);
                addEdge(new Cell(c.x, c.y + 1), sw, se);
                addEdge(new Cell(c.x - 1, c.y), nw, sw);
                addEdge(new Cell(c.x + 1, c.y), ne, se);
            }
        }

        void addEdge(Cell beyond, Cell from, Cell to) {
            if (!bridgedOpen(beyond)) {
                edges.add(new Edge(from, to));
            }
        }

        void findLoops() {
            List<Set<Cell>> sets = new ArrayList<>();
            for (Edge edge : edges) {
                Set<Cell> merged = new HashSet<>(Set.of(edge.from, edge.to));
                List<Set<Cell>> rest = new ArrayList<>();
                for (Set<Cell> set : sets) {
                    if (set.contains(edge.from) || set.contains(edge.to)) {
                        merged.addAll(set);
                    } else {
                        rest.add(set);
                    }
                }
                rest.add(merged);
                sets = rest;
            }
            sets.sort(Comparator.comparingInt(set -> rank(first(set))));
            loops.addAll(sets);
        }

        int edgesOf(int loop) {
            int found = 0;
            for (Edge edge : edges) {
                found += loops.get(loop).contains(edge.from) ? 1 : 0;
            }
            return found;
        }

        void cutAll() {
            Cell at = new Cell(0, 0);
            while (cutOrder.size() < loops.size()) {
                int bestLoop = -1;
                int bestFar = 1000;
                Cell bestCorner = null;
                for (int l = 0; l < loops.size(); l++) {
                    if (cutOrder.contains(l)) {
                        continue;
                    }
                    TreeMap<Integer, Cell> sorted = new TreeMap<>();
                    for (Cell corner : loops.get(l)) {
                        sorted.put(rank(corner), corner);
                    }
                    for (Cell corner : sorted.values()) {
                        int far = Math.abs(corner.x - at.x) + Math.abs(corner.y - at.y);
                        if (far < bestFar) {
                            bestFar = far;
                            bestLoop = l;
                            bestCorner = corner;
                        }
                    }
                }
                air += bestFar;
                cutOrder.add(bestLoop);
                cutAt.add(bestCorner);
                at = bestCorner;
            }
        }
    }

    static int rank(Cell c) {
        return c.y * 100 + c.x;
    }

    static Cell first(Set<Cell> cells) {
        return cells.stream().min(Comparator.comparingInt(Reference::rank)).orElseThrow();
    }

    static boolean between(int v, int low, int high) {
        return low <= v && v <= high;
    }

    int open(int layer) {
        int sum = 0;
        for (Cell c : allCells()) {
            sum += s.open[layer][c.y][c.x] ? 1 : 0;
        }
        return sum;
    }

    int sheet(int wide, int high) {
        forget();
        if (!between(wide, 3, 10) || !between(high, 3, 10)) {
            return OUTSIDE;
        }
        s = new State();
        s.w = wide;
        s.h = high;
        s.open = new boolean[4][high][wide];
        s.wish = new int[high][wide];
        return wide * high;
    }

    int cut(int layer, int x, int y, int on) {
        forget();
        if (!between(layer, 0, 3)) {
            return UNKNOWN;
        }
        if (!in(x, y) || !between(on, 0, 1)) {
            return OUTSIDE;
        }
        s.open[layer][y][x] = on == 1;
        return open(layer);
    }

    int row(int layer, int y, int bits) {
        forget();
        if (!between(layer, 0, 3)) {
            return UNKNOWN;
        }
        if (!in(0, y) || !between(bits, 0, 1023)) {
            return OUTSIDE;
        }
        for (int x = 0; x < s.w; x++) {
            s.open[layer][y][x] = (bits >> x) % 2 == 1;
        }
        return open(layer);
    }

    int wish(int x, int y, int colour) {
        forget();
        if (!in(x, y) || !between(colour, 0, 4)) {
            return OUTSIDE;
        }
        int previous = s.wish[y][x];
        s.wish[y][x] = colour;
        return previous;
    }

    int cell(int layer, int x, int y, int what) {
        if (!between(layer, 0, 3)) {
            return UNKNOWN;
        }
        if (!in(x, y) || !between(what, 0, 3)) {
            return OUTSIDE;
        }
        Analysis a = analyse(layer);
        Cell c = new Cell(x, y);
        return switch (what) {
            case 0 -> a.isOpen(c) ? 1 : 0;
            case 1 -> a.partOf(c, a.islands);
            case 2 -> a.partOf(c, a.holes);
            default -> a.bridgeOf(c);
        };
    }

    int layer(int layer, int what) {
        if (!between(layer, 0, 3)) {
            return UNKNOWN;
        }
        if (!between(what, 0, 7)) {
            return OUTSIDE;
        }
        Analysis a = analyse(layer);
        return switch (what) {
            case 0 -> open(layer);
            case 1 -> a.islands.size();
            case 2 -> a.holes.size();
            case 3 -> a.bridges.size();
            case 4 -> a.bridges.stream().mapToInt(r -> r.length).sum();
            case 5 -> a.looseIslands();
            case 6 -> a.lowerBound;
            default -> a.runs.size();
        };
    }

    int island(int layer, int i, int what) {
        if (!between(layer, 0, 3)) {
            return UNKNOWN;
        }
        if (!between(what, 0, 5)) {
            return OUTSIDE;
        }
        Analysis a = analyse(layer);
        if (!between(i, 0, a.islands.size() - 1)) {
            return NONE;
        }
        return switch (what) {
            case 0 -> a.islands.get(i).size();
            case 1 -> a.depth(i);
            case 2 -> first(a.islands.get(i)).x;
            case 3 -> first(a.islands.get(i)).y;
            case 4 -> a.loose(i) ? 1 : 0;
            default -> (int) a.bridges.stream().filter(r -> r.before == i || r.after == i).count();
        };
    }

    int bridge(int layer, int b, int what) {
        if (!between(layer, 0, 3)) {
            return UNKNOWN;
        }
        if (!between(what, 0, 5)) {
            return OUTSIDE;
        }
        Analysis a = analyse(layer);
        if (!between(b, 0, a.bridges.size() - 1)) {
            return NONE;
        }
        Run run = a.bridges.get(b);
        return switch (what) {
            case 0 -> run.first.x;
            case 1 -> run.first.y;
            case 2 -> run.length;
            case 3 -> run.vertical ? 1 : 0;
            case 4 -> run.before == FRAME_PIECE ? NONE : run.before;
            default -> run.after == FRAME_PIECE ? NONE : run.after;
        };
    }

    int knife(int layer, int what) {
        if (!between(layer, 0, 3)) {
            return UNKNOWN;
        }
        if (!between(what, 0, 2)) {
            return OUTSIDE;
        }
        Analysis a = analyse(layer);
        return what == 0 ? a.edges.size() : what == 1 ? a.loops.size() : a.air;
    }

    int loop(int layer, int k, int what) {
        if (!between(layer, 0, 3)) {
            return UNKNOWN;
        }
        if (!between(what, 0, 3)) {
            return OUTSIDE;
        }
        Analysis a = analyse(layer);
        if (!between(k, 0, a.loops.size() - 1)) {
            return NONE;
        }
        return switch (what) {
            case 0 -> a.cutOrder.get(k);
            case 1 -> a.edgesOf(a.cutOrder.get(k));
            case 2 -> a.cutAt.get(k).x;
            default -> a.cutAt.get(k).y;
        };
    }

    /** All orders with the number of cells that are wrong by each, by ascending number. */
    Map<String, Integer> judge() {
        if (judged != null) {
            return judged;
        }
        Analysis[] layers = new Analysis[4];
        for (int l = 0; l < 4; l++) {
            layers[l] = analyse(l);
        }
        Map<String, Integer> wrong = new TreeMap<>();
        for (String order : ORDERS) {
            int found = 0;
            for (Cell c : allCells()) {
                found += colour(order, c, layers) == s.wish[c.y][c.x] ? 0 : 1;
            }
            wrong.put(order, found);
        }
        judged = wrong;
        return wrong;
    }

    static int colour(String order, Cell c, Analysis[] layers) {
        int colour = 0;
        for (char digit : order.toCharArray()) {
            if (layers[digit - '0'].bridgedOpen(c)) {
                colour = digit - '0' + 1;
            }
        }
        return colour;
    }

    static String bestOf(Map<String, Integer> wrong) {
        String best = null;
        for (String order : new TreeMap<>(wrong).keySet()) {
            if (best == null || wrong.get(order) < wrong.get(best)) {
                best = order;
            }
        }
        return best;
    }

    int paint(int x, int y) {
        if (!in(x, y)) {
            return OUTSIDE;
        }
        Analysis[] layers = new Analysis[4];
        for (int l = 0; l < 4; l++) {
            layers[l] = analyse(l);
        }
        return colour(bestOf(judge()), new Cell(x, y), layers);
    }

    int wrong(int order) {
        Integer found = order < 0 || order > 9999 ? null : judge().get(String.format("%04d", order));
        return found == null ? OUTSIDE : found;
    }

    int best(int what) {
        if (!between(what, 0, 2)) {
            return OUTSIDE;
        }
        Map<String, Integer> wrong = judge();
        String best = bestOf(wrong);
        Map<Integer, Integer> howMany = new HashMap<>();
        wrong.values().forEach(n -> howMany.merge(n, 1, Integer::sum));
        return what == 0 ? Integer.parseInt(best)
                : what == 1 ? wrong.get(best) : howMany.get(wrong.get(best));
    }

    int image(int k) {
        forget();
        if (!between(k, 0, 1)) {
            return OUTSIDE;
        }
        images[k] = s.copy();
        return 1;
    }

    int restore(int k) {
        forget();
        if (!between(k, 0, 1)) {
            return OUTSIDE;
        }
        if (images[k] == null) {
            return STATE;
        }
        s = images[k].copy();
        return 1;
    }

    int count(int what) {
        switch (what) {
            case 0:
                return s.w;
            case 1:
                return s.h;
            case 2:
                return open(0) + open(1) + open(2) + open(3);
            case 3:
                return (int) allCells().stream().filter(c -> s.wish[c.y][c.x] > 0).count();
            case 4:
                int found = 0;
                for (int l = 0; l < 4; l++) {
                    found += analyse(l).looseIslands() > 0 ? 1 : 0;
                }
                return found;
            case 5:
                return (images[0] == null ? 0 : 1) + (images[1] == null ? 0 : 2);
            default:
                return OUTSIDE;
        }
    }
}
