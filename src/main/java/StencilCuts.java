import java.util.Arrays;

/**
 * A planner for stencils with up to four layers: it finds the islands, ties them with bridges,
 * plans the knife's way and finds the best order of painting.
 */
public final class StencilCuts {
    public static final int UNKNOWN = -1, OUTSIDE = -2, STATE = -3, NONE = -6;

    private static final int LAYERS = 4;
    private static final int IMAGES = 2;
    private static final int COLOURS = LAYERS + 1;
    private static final int LEAST_SIDE = 3;
    private static final int MOST_SIDE = 10;
    private static final int FIRST_SIDE = 8;
    private static final int MOST_BITS = (1 << MOST_SIDE) - 1;

    // The largest sheet lies in a ring of frame places: each cell has four neighbours then, and
    // a step beyond the end of a line of places leads from the frame into the frame.
    private static final int PITCH = MOST_SIDE + 2;
    private static final int PLACES = PITCH * PITCH;
    private static final int[] STEPS = {-PITCH, -1, 1, PITCH};

    // Place 0 is always beyond the sheet, so the part found first is the frame's piece.
    private static final int FRAME = 0;
    private static final int MOST_PARTS = MOST_SIDE * MOST_SIDE + 1;
    // Successive runs of a line have a closed cell between them: five a line, in 20 lines.
    private static final int MOST_RUNS = MOST_SIDE * MOST_SIDE;
    // Loops have no corner in common, and each one has four or more.
    private static final int MOST_LOOPS = PLACES / 4;

    // All orders in lexicographic order (0, 1, 2, 3 is 123: a leading 0 would make it octal).
    private static final int[] ORDERS = {
        123, 132, 213, 231, 312, 321, 1023, 1032, 1203, 1230, 1302, 1320,
        2013, 2031, 2103, 2130, 2301, 2310, 3012, 3021, 3102, 3120, 3201, 3210};

    private final Sheet current;
    private final Sheet[] images;
    private final Plan[] plans;
    private final Picture picture;
    private int keptImages;

    public StencilCuts() {
        current = new Sheet();
        images = new Sheet[IMAGES];
        for (int k = 0; k < IMAGES; k++) {
            images[k] = new Sheet();
        }
        int[] queue = new int[PLACES];
        plans = new Plan[LAYERS];
        for (int layer = 0; layer < LAYERS; layer++) {
            plans[layer] = new Plan(queue);
        }
        picture = new Picture();
        keptImages = 0;
    }

    public int sheet(int wide, int high) {
        if (!isWithin(wide, LEAST_SIDE, MOST_SIDE) || !isWithin(high, LEAST_SIDE, MOST_SIDE)) {
            return OUTSIDE;
        }
        current.reset(wide, high);
        forgetAll();
        return wide * high;
    }

    public int cut(int layer, int x, int y, int on) {
        if (!isLayer(layer)) {
            return UNKNOWN;
        }
        if (!current.hasCell(x, y) || !isWithin(on, 0, 1)) {
            return OUTSIDE;
        }
        current.setOpen(layer, x, y, on == 1);
        forgetLayer(layer);
        return current.openCells(layer);
    }

    public int row(int layer, int y, int bits) {
        if (!isLayer(layer)) {
            return UNKNOWN;
        }
        if (!isWithin(y, 0, current.high - 1) || !isWithin(bits, 0, MOST_BITS)) {
            return OUTSIDE;
        }
        current.setLine(layer, y, bits);
        forgetLayer(layer);
        return current.openCells(layer);
    }

    public int wish(int x, int y, int colour) {
        if (!current.hasCell(x, y) || !isWithin(colour, 0, COLOURS - 1)) {
            return OUTSIDE;
        }
        int previous = current.wishAt(x, y);
        current.setWish(x, y, colour);
        picture.fresh = false;
        return previous;
    }

    public int cell(int layer, int x, int y, int what) {
        if (!isLayer(layer)) {
            return UNKNOWN;
        }
        if (!current.hasCell(x, y) || !isWithin(what, 0, 3)) {
            return OUTSIDE;
        }
        if (what == 0) {
            return current.isOpen(layer, x, y) ? 1 : 0;
        }
        Plan plan = plans[layer].bridged(current, layer);
        int place = placeOf(x, y);
        switch (what) {
            case 1:
                return plan.parts.islandAt(place);
            case 2:
                return plan.parts.holeAt(place);
            default:
                return plan.bridges.bridgeAt[place];
        }
    }

    public int layer(int layer, int what) {
        if (!isLayer(layer)) {
            return UNKNOWN;
        }
        if (!isWithin(what, 0, 7)) {
            return OUTSIDE;
        }
        if (what == 0) {
            return current.openCells(layer);
        }
        Plan plan = plans[layer].bridged(current, layer);
        switch (what) {
            case 1:
                return plan.parts.islands;
            case 2:
                return plan.parts.holes;
            case 3:
                return plan.bridges.chosen;
            case 4:
                return plan.bridges.cells;
            case 5:
                return plan.bridges.looseIslands();
            case 6:
                return plan.bridges.lowerBound;
            default:
                return plan.bridges.runs;
        }
    }

    public int island(int layer, int i, int what) {
        if (!isLayer(layer)) {
            return UNKNOWN;
        }
        if (!isWithin(what, 0, 5)) {
            return OUTSIDE;
        }
        Plan plan = plans[layer].bridged(current, layer);
        int part = plan.parts.partOfIsland(i);
        if (!isWithin(part, 0, plan.parts.count - 1)) {
            return NONE;
        }
        switch (what) {
            case 0:
                return plan.parts.size[part];
            case 1:
                return plan.parts.depth[part];
            case 2:
                return xOf(plan.parts.first[part]);
            case 3:
                return yOf(plan.parts.first[part]);
            case 4:
                return plan.bridges.isLoose(part) ? 1 : 0;
            default:
                return plan.bridges.bridgesOf(part);
        }
    }

    public int bridge(int layer, int b, int what) {
        if (!isLayer(layer)) {
            return UNKNOWN;
        }
        if (!isWithin(what, 0, 5)) {
            return OUTSIDE;
        }
        Plan plan = plans[layer].bridged(current, layer);
        if (!isWithin(b, 0, plan.bridges.chosen - 1)) {
            return NONE;
        }
        int run = plan.bridges.bridge[b];
        switch (what) {
            case 0:
                return xOf(Bridges.startOf(run));
            case 1:
                return yOf(Bridges.startOf(run));
            case 2:
                return Bridges.lengthOf(run);
            case 3:
                return Bridges.isVertical(run) ? 1 : 0;
            case 4:
                return plan.parts.islandAt(Bridges.placeBefore(run));
            default:
                return plan.parts.islandAt(Bridges.placeAfter(run));
        }
    }

    public int knife(int layer, int what) {
        if (!isLayer(layer)) {
            return UNKNOWN;
        }
        if (!isWithin(what, 0, 2)) {
            return OUTSIDE;
        }
        Knife knife = plans[layer].routed(current, layer);
        switch (what) {
            case 0:
                return knife.edges;
            case 1:
                return knife.loops;
            default:
                return knife.airPath;
        }
    }

    public int loop(int layer, int k, int what) {
        if (!isLayer(layer)) {
            return UNKNOWN;
        }
        if (!isWithin(what, 0, 3)) {
            return OUTSIDE;
        }
        Knife knife = plans[layer].routed(current, layer);
        if (!isWithin(k, 0, knife.loops - 1)) {
            return NONE;
        }
        int corner = knife.way[k];
        int number = knife.loopOf(corner);
        if (number == NONE) {
            return NONE;
        }
        switch (what) {
            case 0:
                return number;
            case 1:
                return knife.edgesOf[number];
            case 2:
                return xOf(corner);
            default:
                return yOf(corner);
        }
    }

    public int paint(int x, int y) {
        if (!current.hasCell(x, y)) {
            return OUTSIDE;
        }
        judgePicture();
        return Picture.colourOf(picture.bestOrder, openLayers(placeOf(x, y)));
    }

    public int wrong(int order) {
        if (!isOrder(order)) {
            return OUTSIDE;
        }
        judgePicture();
        return picture.wrongBy(order);
    }

    public int best(int what) {
        if (!isWithin(what, 0, 2)) {
            return OUTSIDE;
        }
        judgePicture();
        switch (what) {
            case 0:
                return picture.bestOrder;
            case 1:
                return picture.bestWrong;
            default:
                return picture.bestOrders;
        }
    }

    public int image(int k) {
        if (!isWithin(k, 0, IMAGES - 1)) {
            return OUTSIDE;
        }
        images[k].copyFrom(current);
        keptImages |= 1 << k;
        return 1;
    }

    public int restore(int k) {
        if (!isWithin(k, 0, IMAGES - 1)) {
            return OUTSIDE;
        }
        if ((keptImages >> k & 1) == 0) {
            return STATE;
        }
        current.copyFrom(images[k]);
        forgetAll();
        return 1;
    }

    public int count(int what) {
        switch (what) {
            case 0:
                return current.wide;
            case 1:
                return current.high;
            case 2:
                return openCellsOfAll();
            case 3:
                return current.wishedCells();
            case 4:
                return looseLayers();
            case 5:
                return keptImages;
            default:
                return OUTSIDE;
        }
    }

    private int openCellsOfAll() {
        int sum = 0;
        for (int layer = 0; layer < LAYERS; layer++) {
            sum += current.openCells(layer);
        }
        return sum;
    }

    private int looseLayers() {
        int found = 0;
        for (int layer = 0; layer < LAYERS; layer++) {
            if (plans[layer].bridged(current, layer).bridges.looseIslands() > 0) {
                found++;
            }
        }
        return found;
    }

    private void forgetLayer(int layer) {
        plans[layer].forget();
        picture.fresh = false;
    }

    private void forgetAll() {
        for (int layer = 0; layer < LAYERS; layer++) {
            forgetLayer(layer);
        }
    }

    private void judgePicture() {
        if (picture.fresh) {
            return;
        }
        for (int layer = 0; layer < LAYERS; layer++) {
            plans[layer].bridged(current, layer);
        }
        picture.clear();
        for (int y = 0; y < current.high; y++) {
            for (int x = 0; x < current.wide; x++) {
                picture.addCell(openLayers(placeOf(x, y)), current.wishAt(x, y));
            }
        }
        picture.findBest();
        picture.fresh = true;
    }

    /** The layers, a bit each, in whose bridged layers the place is open; all plans are fresh. */
    private int openLayers(int place) {
        int mask = 0;
        for (int layer = 0; layer < LAYERS; layer++) {
            if (plans[layer].bridges.open[place]) {
                mask |= 1 << layer;
            }
        }
        return mask;
    }

    private static boolean isOrder(int number) {
        for (int order : ORDERS) {
            if (order == number) {
                return true;
            }
        }
        return false;
    }

    private static boolean isLayer(int layer) {
        return isWithin(layer, 0, LAYERS - 1);
    }

    private static boolean isWithin(int value, int least, int most) {
        return value >= least && value <= most;
    }

    private static boolean isPlace(int place) {
        return place >= 0 && place < PLACES;
    }

    private static int placeOf(int x, int y) {
        return (y + 1) * PITCH + x + 1;
    }

    private static int xOf(int place) {
        return place % PITCH - 1;
    }

    private static int yOf(int place) {
        return place / PITCH - 1;
    }

    /** What an image keeps: the size, the open cells of all layers, and the wishes. */
    private static final class Sheet {
        int wide;
        int high;
        // Bit x of the line of a layer and y is set if the cell is open; bits from W on are 0.
        final int[] lines;
        final int[] wishes;

        Sheet() {
            wide = FIRST_SIDE;
            high = FIRST_SIDE;
            lines = new int[LAYERS * MOST_SIDE];
            wishes = new int[MOST_SIDE * MOST_SIDE];
        }

        void reset(int newWide, int newHigh) {
            wide = newWide;
            high = newHigh;
            Arrays.fill(lines, 0);
            Arrays.fill(wishes, 0);
        }

        void copyFrom(Sheet other) {
            wide = other.wide;
            high = other.high;
            System.arraycopy(other.lines, 0, lines, 0, lines.length);
            System.arraycopy(other.wishes, 0, wishes, 0, wishes.length);
        }

        boolean hasCell(int x, int y) {
            return isWithin(x, 0, wide - 1) && isWithin(y, 0, high - 1);
        }

        boolean isOpen(int layer, int x, int y) {
            return (lines[layer * MOST_SIDE + y] >> x & 1) != 0;
        }

        void setOpen(int layer, int x, int y, boolean open) {
            int line = layer * MOST_SIDE + y;
            if (open) {
                lines[line] |= 1 << x;
            } else {
                lines[line] &= ~(1 << x);
            }
        }

        void setLine(int layer, int y, int bits) {
            lines[layer * MOST_SIDE + y] = bits & ((1 << wide) - 1);
        }

        int openCells(int layer) {
            int sum = 0;
            for (int y = 0; y < high; y++) {
                sum += Integer.bitCount(lines[layer * MOST_SIDE + y]);
            }
            return sum;
        }

        int wishAt(int x, int y) {
            return wishes[y * MOST_SIDE + x];
        }

        void setWish(int x, int y, int colour) {
            wishes[y * MOST_SIDE + x] = colour;
        }

        int wishedCells() {
            int found = 0;
            for (int wished : wishes) {
                if (wished > 0) {
                    found++;
                }
            }
            return found;
        }
    }

    /** All that is worked out about one layer, kept until the layer changes. */
    private static final class Plan {
        final Parts parts;
        final Bridges bridges;
        final Knife knife;
        boolean bridgesFresh;
        boolean knifeFresh;

        Plan(int[] queue) {
            parts = new Parts(queue);
            bridges = new Bridges(parts);
            knife = new Knife(bridges, queue);
            bridgesFresh = false;
            knifeFresh = false;
        }

        void forget() {
            bridgesFresh = false;
            knifeFresh = false;
        }

        /** This plan, with parts and bridges that fit the sheet. */
        Plan bridged(Sheet sheet, int layer) {
            if (!bridgesFresh) {
                parts.find(sheet, layer);
                parts.findDepths();
                bridges.runs = 0;
                bridges.findRuns(0);
                bridges.findRuns(1);
                bridges.findLowerBound();
                bridges.build();
                bridgesFresh = true;
            }
            return this;
        }

        /** The knife, with loops and a way that fit the sheet. */
        Knife routed(Sheet sheet, int layer) {
            bridged(sheet, layer);
            if (!knifeFresh) {
                knife.findLoops();
                knife.planWay();
                knifeFresh = true;
            }
            return knife;
        }
    }

    /** The connected parts of a layer: the frame's piece, the islands and the holes. */
    private static final class Parts {
        final int[] queue;
        final boolean[] open;
        final int[] partAt;
        // Of each part: its number among the islands or among the holes (NONE for the frame).
        final int[] number;
        final int[] first;
        final int[] size;
        final int[] depth;
        int count;
        int islands;
        int holes;

        Parts(int[] queue) {
            this.queue = queue;
            open = new boolean[PLACES];
            partAt = new int[PLACES];
            number = new int[MOST_PARTS];
            first = new int[MOST_PARTS];
            size = new int[MOST_PARTS];
            depth = new int[MOST_PARTS];
        }

        void find(Sheet sheet, int layer) {
            lay(sheet, layer);
            Arrays.fill(partAt, NONE);
            count = 0;
            islands = 0;
            holes = 0;
            for (int place = 0; place < PLACES; place++) {
                if (partAt[place] == NONE && count < MOST_PARTS) {
                    addPart(place);
                }
            }
        }

        private void lay(Sheet sheet, int layer) {
            for (int place = 0; place < PLACES; place++) {
                int x = xOf(place);
                int y = yOf(place);
                open[place] = sheet.hasCell(x, y) && sheet.isOpen(layer, x, y);
            }
        }

        private void addPart(int place) {
            if (count == FRAME) {
                number[count] = NONE;
            } else if (open[place]) {
                number[count] = holes;
                holes++;
            } else {
                number[count] = islands;
                islands++;
            }
            first[count] = place;
            size[count] = spread(place, count);
            count++;
        }

        /** Gives all places connected with the start to the part; returns how many there are. */
        private int spread(int start, int part) {
            partAt[start] = part;
            queue[0] = start;
            int waiting = 1;
            for (int head = 0; head < waiting && head < PLACES; head++) {
                for (int step : STEPS) {
                    int next = queue[head] + step;
                    if (isPlace(next) && partAt[next] == NONE && open[next] == open[start]
                            && waiting < PLACES) {
                        partAt[next] = part;
                        queue[waiting] = next;
                        waiting++;
                    }
                }
            }
            return waiting;
        }

        // Neighbouring parts always differ in being open, so each step between parts is a change.
        void findDepths() {
            Arrays.fill(depth, NONE);
            depth[FRAME] = 0;
            boolean deeper = true;
            for (int level = 0; deeper && level < MOST_PARTS; level++) {
                deeper = reachFrom(level);
            }
        }

        private boolean reachFrom(int level) {
            boolean reached = false;
            for (int place = 0; place < PLACES; place++) {
                if (depth[partOf(place)] != level) {
                    continue;
                }
                for (int step : STEPS) {
                    int next = partOf(place + step);
                    if (depth[next] == NONE) {
                        depth[next] = level + 1;
                        reached = true;
                    }
                }
            }
            return reached;
        }

        /** The part at the place, which is the frame's piece beyond the places. */
        int partOf(int place) {
            int part = isPlace(place) ? partAt[place] : FRAME;
            return isWithin(part, 0, count - 1) ? part : FRAME;
        }

        private boolean isOpen(int place) {
            return isPlace(place) && open[place];
        }

        int islandAt(int place) {
            return isOpen(place) ? NONE : number[partOf(place)];
        }

        int holeAt(int place) {
            return isOpen(place) ? number[partOf(place)] : NONE;
        }

        boolean isIsland(int part) {
            return part != FRAME && isWithin(part, 0, count - 1) && !isOpen(first[part]);
        }

        int partOfIsland(int island) {
            for (int part = 0; part < count; part++) {
                if (isIsland(part) && number[part] == island) {
                    return part;
                }
            }
            return NONE;
        }
    }

    /**
     * The runs and the bridges of a layer. A run is one number, made of its length, whether it is
     * vertical, and its first place, so that the order of these numbers is the order of the runs.
     */
    private static final class Bridges {
        final Parts parts;
        final int[] run;
        final int[] bridge;
        final int[] bridgeAt;
        // Open places of the bridged layer.
        final boolean[] open;
        // Pieces that are tied to each other are in the same group.
        final int[] group;
        int runs;
        int chosen;
        int cells;
        int lowerBound;

        Bridges(Parts parts) {
            this.parts = parts;
            run = new int[MOST_RUNS];
            bridge = new int[MOST_RUNS];
            bridgeAt = new int[PLACES];
            open = new boolean[PLACES];
            group = new int[MOST_PARTS];
        }

        static int startOf(int run) {
            return run % PLACES;
        }

        static boolean isVertical(int run) {
            return stepOf(run) == PITCH;
        }

        static int stepOf(int run) {
            return run / PLACES % 2 == 1 ? PITCH : 1;
        }

        static int lengthOf(int run) {
            return run / PLACES / 2;
        }

        static int placeBefore(int run) {
            return startOf(run) - stepOf(run);
        }

        static int placeAfter(int run) {
            return startOf(run) + lengthOf(run) * stepOf(run);
        }

        /** Adds all runs of one direction: 0 horizontal, 1 vertical. */
        void findRuns(int vertical) {
            int step = vertical == 1 ? PITCH : 1;
            for (int start = step; start < PLACES; start++) {
                if (parts.open[start] && !parts.open[start - step]) {
                    int length = lengthFrom(start, step);
                    int found = (length * 2 + vertical) * PLACES + start;
                    if (parts.partOf(placeBefore(found)) != parts.partOf(placeAfter(found))) {
                        insertRun(found);
                    }
                }
            }
        }

        private int lengthFrom(int start, int step) {
            int length = 0;
            for (int place = start; place < PLACES && parts.open[place]; place += step) {
                length++;
            }
            return length;
        }

        private void insertRun(int found) {
            if (runs >= MOST_RUNS) {
                return;
            }
            int at = runs;
            for (; at > 0 && run[at - 1] > found; at--) {
                run[at] = run[at - 1];
            }
            run[at] = found;
            runs++;
        }

        void findLowerBound() {
            untieAll();
            lowerBound = 0;
            for (int r = 0; r < runs; r++) {
                if (isUntied(run[r])) {
                    tieEnds(run[r]);
                    lowerBound += lengthOf(run[r]);
                }
            }
        }

        void build() {
            untieAll();
            removeAll();
            for (int r = 0; r < runs; r++) {
                if (isUntied(run[r]) && isClear(run[r])) {
                    tieEnds(run[r]);
                    addBridge(run[r]);
                }
            }
        }

        private void removeAll() {
            for (int place = 0; place < PLACES; place++) {
                open[place] = parts.open[place];
                bridgeAt[place] = NONE;
            }
            chosen = 0;
            cells = 0;
        }

        private void untieAll() {
            for (int part = 0; part < parts.count; part++) {
                group[part] = part;
            }
        }

        private boolean isUntied(int candidate) {
            int before = parts.partOf(placeBefore(candidate));
            int after = parts.partOf(placeAfter(candidate));
            return group[before] != group[after];
        }

        private void tieEnds(int tying) {
            int kept = group[parts.partOf(placeBefore(tying))];
            int joined = group[parts.partOf(placeAfter(tying))];
            for (int part = 0; part < parts.count; part++) {
                if (group[part] == joined) {
                    group[part] = kept;
                }
            }
        }

        private boolean isClear(int candidate) {
            int place = startOf(candidate);
            int length = lengthOf(candidate);
            for (int k = 0; k < length; k++) {
                if (touchesBridge(place)) {
                    return false;
                }
                place += stepOf(candidate);
            }
            return true;
        }

        private boolean touchesBridge(int place) {
            if (isPlace(place) && bridgeAt[place] != NONE) {
                return true;
            }
            for (int step : STEPS) {
                int next = place + step;
                if (isPlace(next) && bridgeAt[next] != NONE) {
                    return true;
                }
            }
            return false;
        }

        private void addBridge(int added) {
            if (chosen >= MOST_RUNS) {
                return;
            }
            int place = startOf(added);
            int length = lengthOf(added);
            for (int k = 0; k < length && isPlace(place); k++) {
                bridgeAt[place] = chosen;
                open[place] = false;
                place += stepOf(added);
            }
            cells += length;
            bridge[chosen] = added;
            chosen++;
        }

        boolean isLoose(int part) {
            return group[part] != group[FRAME];
        }

        int looseIslands() {
            int found = 0;
            for (int part = 0; part < parts.count; part++) {
                if (parts.isIsland(part) && isLoose(part)) {
                    found++;
                }
            }
            return found;
        }

        int bridgesOf(int part) {
            int found = 0;
            for (int b = 0; b < chosen; b++) {
                if (parts.partOf(placeBefore(bridge[b])) == part
                        || parts.partOf(placeAfter(bridge[b])) == part) {
                    found++;
                }
            }
            return found;
        }
    }

    /**
     * The loops of a layer and the knife's way around them. A corner has the place of the cell of
     * which it is the corner with the lowest coordinates.
     */
    private static final class Knife {
        // The two places, seen from a corner, between which the edge along each of STEPS lies.
        private static final int[] ONE_SIDE = {-PITCH - 1, -PITCH - 1, -PITCH, -1};
        private static final int[] OTHER_SIDE = {-PITCH, -1, 0, 0};

        final Bridges bridges;
        final int[] queue;
        final int[] loopAt;
        final int[] edgesOf;
        final boolean[] isCut;
        final int[] way;
        int edges;
        int loops;
        int airPath;

        Knife(Bridges bridges, int[] queue) {
            this.bridges = bridges;
            this.queue = queue;
            loopAt = new int[PLACES];
            edgesOf = new int[MOST_LOOPS];
            isCut = new boolean[MOST_LOOPS];
            way = new int[MOST_LOOPS];
        }

        void findLoops() {
            Arrays.fill(loopAt, NONE);
            edges = 0;
            loops = 0;
            for (int corner = 0; corner < PLACES; corner++) {
                if (loopAt[corner] == NONE && hasAnyEdge(corner) && loops < MOST_LOOPS) {
                    edgesOf[loops] = follow(corner, loops);
                    edges += edgesOf[loops];
                    loops++;
                }
            }
        }

        private boolean hasAnyEdge(int corner) {
            for (int direction = 0; direction < STEPS.length; direction++) {
                if (hasEdge(corner, direction)) {
                    return true;
                }
            }
            return false;
        }

        private boolean hasEdge(int corner, int direction) {
            int one = corner + ONE_SIDE[direction];
            int other = corner + OTHER_SIDE[direction];
            return isPlace(one) && isPlace(other) && bridges.open[one] != bridges.open[other];
        }

        /** Gives all corners connected with the start to the loop; returns its edges. */
        private int follow(int start, int loop) {
            loopAt[start] = loop;
            queue[0] = start;
            int waiting = 1;
            int ends = 0;
            for (int head = 0; head < waiting && head < PLACES; head++) {
                for (int direction = 0; direction < STEPS.length; direction++) {
                    if (!hasEdge(queue[head], direction)) {
                        continue;
                    }
                    ends++;
                    int next = queue[head] + STEPS[direction];
                    if (isPlace(next) && loopAt[next] == NONE && waiting < PLACES) {
                        loopAt[next] = loop;
                        queue[waiting] = next;
                        waiting++;
                    }
                }
            }
            return ends / 2;
        }

        void planWay() {
            for (int number = 0; number < MOST_LOOPS; number++) {
                isCut[number] = false;
            }
            airPath = 0;
            int at = placeOf(0, 0);
            for (int k = 0; k < loops; k++) {
                int next = nearestFrom(at);
                int loop = loopOf(next);
                if (loop == NONE) {
                    return;
                }
                airPath += distance(at, next);
                isCut[loop] = true;
                way[k] = next;
                at = next;
            }
        }

        /** The loop that has this corner; NONE if there is none. */
        int loopOf(int corner) {
            int loop = isPlace(corner) ? loopAt[corner] : NONE;
            return isWithin(loop, 0, loops - 1) ? loop : NONE;
        }

        private int nearestFrom(int at) {
            int nearest = NONE;
            int least = PLACES;
            int lowest = MOST_LOOPS;
            for (int corner = 0; corner < PLACES; corner++) {
                int loop = loopOf(corner);
                if (loop == NONE || isCut[loop]) {
                    continue;
                }
                int far = distance(at, corner);
                if (far < least || far == least && loop < lowest) {
                    nearest = corner;
                    least = far;
                    lowest = loop;
                }
            }
            return nearest;
        }

        private static int distance(int from, int to) {
            return Math.abs(xOf(from) - xOf(to)) + Math.abs(yOf(from) - yOf(to));
        }
    }

    /** How well the orders of painting meet the wishes. */
    private static final class Picture {
        // The number of cells for each set of open layers (a bit each) and each wish.
        final int[] tally;
        int cells;
        int bestOrder;
        int bestWrong;
        int bestOrders;
        boolean fresh;

        Picture() {
            tally = new int[(1 << LAYERS) * COLOURS];
            fresh = false;
        }

        void clear() {
            Arrays.fill(tally, 0);
            cells = 0;
        }

        void addCell(int openLayers, int wished) {
            tally[openLayers * COLOURS + wished]++;
            cells++;
        }

        static int colourOf(int order, int openLayers) {
            int rest = order;
            for (int k = 0; k < LAYERS; k++) {
                int last = rest % 10;
                if ((openLayers >> last & 1) != 0) {
                    return last + 1;
                }
                rest /= 10;
            }
            return 0;
        }

        int wrongBy(int order) {
            int right = 0;
            for (int openLayers = 0; openLayers < 1 << LAYERS; openLayers++) {
                right += tally[openLayers * COLOURS + colourOf(order, openLayers)];
            }
            return cells - right;
        }

        void findBest() {
            bestWrong = cells + 1;
            bestOrders = 0;
            for (int order : ORDERS) {
                int found = wrongBy(order);
                if (found < bestWrong) {
                    bestOrder = order;
                    bestWrong = found;
                    bestOrders = 0;
                }
                if (found == bestWrong) {
                    bestOrders++;
                }
            }
        }
    }
}
