/** What the tests written by hand share: building objects, comparing answers, and the count of wrong ones. */
abstract class Checks {
    static final int MIN = Integer.MIN_VALUE;
    static final int MAX = Integer.MAX_VALUE;

    private static String about = "";
    private static int tests = 0;
    private static int wrong = 0;

    /** Runs one test; its wrong answers are told together with what the test is about. */
    static void test(String what, Runnable body) {
        about = what;
        tests++;
        try {
            body.run();
        } catch (RuntimeException thrown) {
            // Told as a wrong answer, so that the tests after this one still run.
            due("a call", thrown, "no exception");
        }
    }

    static void end() {
        System.out.println(wrong == 0
            ? "all answers of " + tests + " tests are as due"
            : wrong + " answers are not as due");
        if (wrong != 0) {
            System.exit(1);
        }
    }

    static void due(String call, Object got, Object want) {
        if (!got.equals(want)) {
            wrong++;
            System.out.println("[" + about + "] " + call + " answered " + got + ", due is " + want);
        }
    }

    static int[] list(int... values) {
        return values;
    }

    static OrderMatcher matcher(int[] text, int[] pattern) {
        OrderMatcher x = new OrderMatcher();
        for (int value : text) {
            x.feed(value);
        }
        for (int value : pattern) {
            x.pattern(value);
        }
        return x;
    }

    /** An object whose text is 1, 2, 3, .. and whose pattern is empty. */
    static OrderMatcher rising(int length) {
        OrderMatcher x = new OrderMatcher();
        for (int value = 1; value <= length; value++) {
            x.feed(value);
        }
        return x;
    }

    static void textIs(String when, OrderMatcher x, int... values) {
        due(when + ": length()", x.length(), values.length);
        for (int p = 0; p < values.length; p++) {
            due(when + ": valueAt(" + p + ")", x.valueAt(p), values[p]);
        }
    }

    static void ranksAre(String when, OrderMatcher x, int... ranks) {
        due(when + ": patternLength()", x.patternLength(), ranks.length);
        for (int i = 0; i < ranks.length; i++) {
            due(when + ": rank(" + i + ")", x.rank(i), ranks[i]);
        }
    }

    static void occurrencesAre(String when, OrderMatcher x, int... positions) {
        due(when + ": occurrences()", x.occurrences(), positions.length);
        for (int i = 0; i < positions.length; i++) {
            due(when + ": occurrence(" + i + ")", x.occurrence(i), positions[i]);
        }
        due(when + ": occurrence after the last", x.occurrence(positions.length), -1);
    }
}
