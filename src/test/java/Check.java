/** Counts the answers that are not as due, and ends a test with exit code 1 if there was one. */
final class Check {
    private static int checks = 0;
    private static int wrong = 0;
    private static String sentence = "";

    private Check() {
    }

    /** The sentence of the document that the checks from here on are about. */
    static void sentence(String quoted) {
        sentence = "\"" + quoted + "\": ";
    }

    static void due(String call, long got, long want) {
        checks++;
        if (got != want) {
            wrong++;
            System.out.println(sentence + call + " answered " + got + ", due is " + want);
        }
    }

    static void holds(String what, boolean truth) {
        checks++;
        if (!truth) {
            wrong++;
            System.out.println(sentence + "does not hold: " + what);
        }
    }

    static int wrongSoFar() {
        return wrong;
    }

    static void finish() {
        System.out.println(checks + " answers, " + wrong + " not as due");
        if (wrong != 0 || checks == 0) {
            System.exit(1);
        }
    }
}
