/** What the tests share: counting wrong answers, writing filters, and ending with the exit code. */
final class Checks {
    static final int ALL = 15;
    static final int NO_FILTER_BELOW = -1;
    static final int NO_FILTER_ABOVE = 262144;
    /** Passes every event. */
    static final int EVERY = filter(ALL, ALL, 0, 0, 15);
    /** Passes no event. */
    static final int NOTHING = filter(0, 0, 0, 0, 15);

    private static int wrong = 0;
    private static int made = 0;
    private static int sentences = 0;
    private static int madeBeforeSentence = 0;
    private static String sentence = "";

    private Checks() {
    }

    /** The checks from here on hold this sentence of the document: a wrong answer is told with it. */
    static void sentence(String where, String words) {
        closeSentence();
        sentences++;
        madeBeforeSentence = made;
        sentence = where + ", \"" + words + "\": ";
    }

    // A sentence that nothing was held against would pass without being tested.
    private static void closeSentence() {
        if (sentences > 0 && made == madeBeforeSentence) {
            wrong++;
            System.out.println(sentence + "has no check");
        }
    }

    static void due(String call, int got, int want) {
        made++;
        if (got != want) {
            wrong++;
            System.out.println(sentence + call + " answered " + got + ", due is " + want);
        }
    }

    static void holds(String what, boolean does) {
        made++;
        if (!does) {
            wrong++;
            System.out.println(sentence + "does not hold: " + what);
        }
    }

    static int filter(int places, int kinds, int mode, int from, int to) {
        return places + 16 * kinds + 256 * mode + 1024 * from + 16384 * to;
    }

    /** Passes every event with these hours. */
    static int hours(int from, int to) {
        return filter(ALL, ALL, 0, from, to);
    }

    static void end() {
        closeSentence();
        String held = sentences > 0 ? sentences + " sentences, " : "";
        System.out.println(held + made + " checks, " + wrong + " wrong");
        if (wrong != 0 || made == 0) {
            System.exit(1);
        }
    }
}
