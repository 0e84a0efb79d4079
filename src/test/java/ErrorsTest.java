import java.util.Arrays;

/** The sentences under ERRORS, for every method, and the sentence on the number of calls. */
public final class ErrorsTest {
    private static final int UNKNOWN = -1, OUTSIDE = -2, STATE = -3, NONE = -6;
    private static final int LOW = Integer.MIN_VALUE, HIGH = Integer.MAX_VALUE;

    // Each method with the kinds of its arguments; "what" is followed by its highest value.
    private static final String[] CALLS = {
        "sheet side side", "cut layer x y on", "row layer y bits", "wish x y colour",
        "cell layer x y what3", "layer layer what7", "island layer any what5",
        "bridge layer any what5", "knife layer what2", "loop layer any what3", "paint x y",
        "wrong order", "best what2", "image k", "restore k", "count what5"};

    private static int refused = 0;

    public static void main(String[] args) {
        edgesOfAllArguments();
        unknownBeforeOutside();
        outsideBeforeState();
        noneOnlyWithoutError();
        noneIsNoError();
        theStateAtTheTimeOfTheCall();
        askingChangesNothing();
        callsUpTo512();
        Check.finish();
    }

    private static int least(String kind) {
        return kind.equals("side") ? 3 : 0;
    }

    private static int most(String kind) {
        return switch (kind) {
            case "side" -> 10;
            case "layer" -> 3;
            case "x" -> Sample.WIDE - 1;
            case "y" -> Sample.HIGH - 1;
            case "on", "k" -> 1;
            case "bits" -> 1023;
            case "colour" -> 4;
            default -> kind.charAt(kind.length() - 1) - '0';
        };
    }

    private static int[] edges(String kind) {
        return switch (kind) {
            case "any" -> new int[] {LOW, -1, 0, 1, HIGH};
            case "order" -> new int[] {LOW, -123, -1, 0, 122, 123, 124, 3209, 3210, 3211, HIGH};
            default -> new int[] {LOW, least(kind) - 1, least(kind), most(kind), most(kind) + 1, HIGH};
        };
    }

    private static boolean fits(String kind, int value) {
        return switch (kind) {
            case "any" -> true;
            case "order" -> value == 123 || value == 3210;
            default -> value >= least(kind) && value <= most(kind);
        };
    }

    private static void edgesOfAllArguments() {
        StencilCuts untouched = Sample.make();
        String before = Sample.ask(untouched) + Sample.empty(untouched);
        for (String call : CALLS) {
            String[] words = call.split(" ");
            tryArguments(words, new int[words.length - 1], 0, before);
        }
        Check.holds("many calls were refused: " + refused, refused > 2000);
    }

    private static void tryArguments(String[] words, int[] a, int given, String before) {
        if (given < a.length) {
            for (int value : edges(words[given + 1])) {
                a[given] = value;
                tryArguments(words, a, given + 1, before);
            }
            return;
        }
        int due = codeFor(words, a);
        String name = words[0] + Arrays.toString(a);
        StencilCuts x = Sample.make();
        int got = Face.call(x, words[0], a);
        if (due == 0) {
            Check.sentence("If several of them apply to one call, the first one in this list is"
                    + " returned.");
            Check.holds(name + " is no error, but answered " + got, got >= 0 || got == NONE);
            return;
        }
        refused++;
        Check.sentence("If several of them apply to one call, the first one in this list is returned.");
        Check.due(name, got, due);
        Check.sentence("A call that returns an error code changes nothing.");
        Check.holds(name, before.equals(Sample.ask(x) + Sample.empty(x)));
    }

    /** The error code that is due, or 0. */
    private static int codeFor(String[] words, int[] a) {
        boolean outside = false;
        for (int k = 0; k < a.length; k++) {
            if (!fits(words[k + 1], a[k])) {
                if (words[k + 1].equals("layer")) {
                    return UNKNOWN;
                }
                outside = true;
            }
        }
        // The sample's second image is not kept.
        boolean state = words[0].equals("restore") && a[0] == 1;
        return outside ? OUTSIDE : state ? STATE : 0;
    }

    private static void unknownBeforeOutside() {
        Check.sentence("The error codes are UNKNOWN (-1), there is no such layer; OUTSIDE (-2),"
                + " another argument is out of its range; STATE (-3), as the method says.");
        for (int layer : new int[] {LOW, -4, -1, 4, 5, 256, HIGH}) {
            StencilCuts x = Sample.make();
            Check.due("cut " + layer, x.cut(layer, 0, 0, 1), UNKNOWN);
            Check.due("cut, all wrong " + layer, x.cut(layer, 4, 3, 2), UNKNOWN);
            Check.due("row " + layer, x.row(layer, 0, 0), UNKNOWN);
            Check.due("row, all wrong " + layer, x.row(layer, 3, 1024), UNKNOWN);
            Check.due("cell " + layer, x.cell(layer, 0, 0, 0), UNKNOWN);
            Check.due("cell, all wrong " + layer, x.cell(layer, -1, -1, -1), UNKNOWN);
            Check.due("layer " + layer, x.layer(layer, 0), UNKNOWN);
            Check.due("layer, all wrong " + layer, x.layer(layer, 8), UNKNOWN);
            Check.due("island " + layer, x.island(layer, 0, 0), UNKNOWN);
            Check.due("island, all wrong " + layer, x.island(layer, -1, 6), UNKNOWN);
            Check.due("bridge " + layer, x.bridge(layer, 0, 0), UNKNOWN);
            Check.due("bridge, all wrong " + layer, x.bridge(layer, -1, 6), UNKNOWN);
            Check.due("knife " + layer, x.knife(layer, 0), UNKNOWN);
            Check.due("knife, all wrong " + layer, x.knife(layer, 3), UNKNOWN);
            Check.due("loop " + layer, x.loop(layer, 0, 0), UNKNOWN);
            Check.due("loop, all wrong " + layer, x.loop(layer, -1, 4), UNKNOWN);
        }
    }

    private static void outsideBeforeState() {
        Check.sentence("If several of them apply to one call, the first one in this list is returned.");
        for (int k : new int[] {LOW, -2, -1, 2, 3, 31, 32, 33, HIGH}) {
            Check.due("restore where nothing is kept " + k, new StencilCuts().restore(k), OUTSIDE);
        }
    }

    private static void noneOnlyWithoutError() {
        Check.sentence("NONE (-6) means that there is no such value; it is returned only if no"
                + " error code applies.");
        for (int none : new int[] {LOW, -6, -1, 1, 2, 100, HIGH}) {
            StencilCuts x = Sample.make();
            Check.due("island " + none, x.island(0, none, 5), NONE);
            Check.due("bridge " + none, x.bridge(0, none, 5), NONE);
            Check.due("loop " + none, x.loop(2, none, 3), NONE);
            for (int what : new int[] {LOW, -1, 6, HIGH}) {
                Check.due("island " + none + " what " + what, x.island(0, none, what), OUTSIDE);
                Check.due("bridge " + none + " what " + what, x.bridge(0, none, what), OUTSIDE);
                Check.due("loop " + none + " what " + what, x.loop(2, none, what), OUTSIDE);
            }
            Check.due("loop " + none + " what 4", x.loop(2, none, 4), OUTSIDE);
            Check.due("island of no layer " + none, x.island(4, none, 0), UNKNOWN);
            Check.due("bridge of no layer " + none, x.bridge(4, none, 0), UNKNOWN);
            Check.due("loop of no layer " + none, x.loop(4, none, 0), UNKNOWN);
        }
        StencilCuts closed = new StencilCuts();
        Check.due("a closed cell has no bridge", closed.cell(0, 0, 0, 3), NONE);
        Check.due("no cell has no bridge", closed.cell(0, 8, 0, 3), OUTSIDE);
        Check.due("no layer has no bridge", closed.cell(-1, 0, 0, 3), UNKNOWN);
    }

    private static void noneIsNoError() {
        Check.sentence("NONE (-6) means that there is no such value");
        StencilCuts x = Sample.make();
        Check.due("the island ends at the frame", x.bridge(0, 0, 4), NONE);
        Check.due("the frame's piece is no island", x.cell(1, 2, 0, 1), NONE);
        Check.due("a closed cell is in no hole", x.cell(1, 2, 0, 2), NONE);
        Check.due("an open cell is in no island", x.cell(1, 0, 0, 1), NONE);
    }

    private static void theStateAtTheTimeOfTheCall() {
        Check.sentence("All results are for the state at the time of the call.");
        String[] changes = {"cut 0 1 1 1", "cut 0 3 2 0", "cut 3 0 0 1", "row 0 1 15", "row 1 0 0",
            "row 2 1 6", "wish 0 0 1", "wish 3 2 0", "wish 1 1 4", "sheet 4 3", "restore 0",
            "image 1"};
        for (String change : changes) {
            String[] words = change.split(" ");
            int[] a = Arrays.stream(words).skip(1).mapToInt(Integer::parseInt).toArray();
            // The first one has looked at everything before the change, the second one at nothing.
            StencilCuts asked = Sample.make();
            Sample.ask(asked);
            Face.call(asked, words[0], a);
            StencilCuts fresh = Sample.make();
            Face.call(fresh, words[0], a);
            String after = answersOf(fresh);
            Check.holds("after " + change, after.equals(answersOf(asked)));
            Check.holds(change + " changes an answer", !after.equals(answersOf(Sample.make())));
        }
    }

    // Asking the whole sample a second time would go beyond 512 calls.
    private static String answersOf(StencilCuts x) {
        StringBuilder all = new StringBuilder();
        for (int layer = 0; layer < 4; layer++) {
            for (int what = 0; what < 8; what++) {
                all.append(x.layer(layer, what)).append(' ');
            }
            all.append(x.knife(layer, 0)).append(' ').append(x.knife(layer, 2)).append(' ');
            all.append(x.loop(layer, 0, 1)).append(' ').append(x.cell(layer, 1, 1, 1)).append(' ');
            all.append(x.cell(layer, 0, 1, 3)).append(' ').append(x.island(layer, 0, 1)).append(' ');
        }
        all.append(x.paint(0, 0)).append(' ').append(x.paint(2, 2)).append(' ');
        all.append(x.best(0)).append(' ').append(x.best(1)).append(' ').append(x.best(2)).append(' ');
        for (int what = 0; what < 6; what++) {
            all.append(x.count(what)).append(' ');
        }
        return all.toString();
    }

    private static void askingChangesNothing() {
        Check.sentence("All results are for the state at the time of the call.");
        StencilCuts asked = Sample.make();
        Sample.ask(asked);
        Check.holds("asking changes nothing",
                Sample.empty(asked).equals(Sample.empty(Sample.make())));
    }

    private static void callsUpTo512() {
        Check.sentence("An object is used for at most 512 calls after it has been made");
        StencilCuts x = new StencilCuts();
        for (int k = 0; k < 512; k++) {
            int round = k / 64;
            int due = round % 2 == 0 ? k % 64 + 1 : 63 - k % 64;
            Check.due("call " + (k + 1), x.cut(0, k % 8, k / 8 % 8, 1 - round % 2), due);
        }
        StencilCuts late = chequered(509);
        StencilCuts early = chequered(40);
        Check.due("call 511", late.count(2), 200);
        Check.due("call 512", late.knife(3, 2), early.knife(3, 2));
    }

    /** All layers chequered, by this number of calls of row after the one of sheet. */
    private static StencilCuts chequered(int rows) {
        StencilCuts x = new StencilCuts();
        x.sheet(10, 10);
        for (int k = 0; k < rows; k++) {
            x.row(k / 10 % 4, k % 10, k % 2 == 0 ? 0b0101010101 : 0b1010101010);
        }
        return x;
    }
}
