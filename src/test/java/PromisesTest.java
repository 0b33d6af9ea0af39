/** Each promise by hand on ordinary inputs; the edges and wrong inputs are in BoundariesTest. */
public final class PromisesTest extends Checks {
    public static void main(String[] args) {
        test("Promise 1", PromisesTest::objectsShareNothing);
        test("Promise 2", PromisesTest::pattern);
        test("Promise 3", PromisesTest::clearPattern);
        test("Promise 4", PromisesTest::take);
        test("Promise 4", PromisesTest::takeCopies);
        test("Promise 5", PromisesTest::feed);
        test("Promise 6", PromisesTest::ramp);
        test("Promise 7", PromisesTest::echo);
        test("Promise 8", PromisesTest::undo);
        test("Promise 9", PromisesTest::length);
        test("Promise 10", PromisesTest::patternLength);
        test("Promise 11", PromisesTest::valueAt);
        test("Promise 12", PromisesTest::occurrences);
        test("Promise 12", PromisesTest::shapeIsThatOfEveryPair);
        test("Promise 12", PromisesTest::shapeOfExtremeValues);
        test("Promise 13", PromisesTest::occurrence);
        test("Promise 14", PromisesTest::occursAt);
        test("Promise 15", PromisesTest::nextFrom);
        test("Promise 16", PromisesTest::matchedAt);
        test("Promise 17", PromisesTest::border);
        test("Promise 18", PromisesTest::period);
        test("Promise 19", PromisesTest::rank);
        test("Promise 20", PromisesTest::disjoint);
        end();
    }

    private static void objectsShareNothing() {
        OrderMatcher x = matcher(list(1, 2), list(3, 4));
        OrderMatcher y = new OrderMatcher();
        due("length() of another", y.length(), 0);
        due("patternLength() of another", y.patternLength(), 0);
        y.feed(9);
        y.pattern(9);
        textIs("after use of another", x, 1, 2);
        ranksAre("after use of another", x, 0, 1);
    }

    private static void pattern() {
        OrderMatcher x = new OrderMatcher();
        due("pattern(5)", x.pattern(5), 1);
        due("pattern(9)", x.pattern(9), 2);
        due("pattern(5)", x.pattern(5), 3);
        due("pattern(7)", x.pattern(7), 4);
        ranksAre("the values stand in order", x, 0, 1, 16, 2);
        due("length() stays", x.length(), 0);
    }

    private static void clearPattern() {
        OrderMatcher x = matcher(list(1, 2, 3), list(5, 6));
        due("clearPattern()", x.clearPattern(), 2);
        due("patternLength()", x.patternLength(), 0);
        due("occurrences()", x.occurrences(), 0);
        textIs("the text stays", x, 1, 2, 3);
        due("pattern(4)", x.pattern(4), 1);
        ranksAre("nothing old is left", x, 0);
    }

    private static void take() {
        OrderMatcher x = matcher(list(8, 3, 5, 5, 1, 9, 2, 7, 4, 6, 0, 3), list(1, 2, 3));
        due("take(1, 4)", x.take(1, 4), 4);
        ranksAre("take(1, 4)", x, 0, 1, 17, 0);
        occurrencesAre("take(1, 4)", x, 1);
        due("take(3, 7)", x.take(3, 7), 7);
        ranksAre("take(3, 7)", x, 0, 0, 2, 1, 3, 2, 4);
        due("take(2, 2)", x.take(2, 2), 2);
        ranksAre("take(2, 2)", x, 0, 16);
        textIs("the text stays", x, 8, 3, 5, 5, 1, 9, 2, 7, 4, 6, 0, 3);
    }

    private static void takeCopies() {
        OrderMatcher x = matcher(list(4, 6, 5), list());
        x.take(0, 3);
        x.undo(3);
        x.ramp(1, 1, 3);
        ranksAre("the copy stays when the text changes", x, 0, 1, 1);
        x.pattern(5);
        due("the copy has the values themselves: rank(3)", x.rank(3), 17);
        textIs("pattern leaves the text", x, 1, 2, 3);
    }

    private static void feed() {
        OrderMatcher x = new OrderMatcher();
        due("feed(4)", x.feed(4), 1);
        due("feed(-7)", x.feed(-7), 2);
        due("feed(4)", x.feed(4), 3);
        textIs("the values stand in order", x, 4, -7, 4);
        due("patternLength() stays", x.patternLength(), 0);
    }

    private static void ramp() {
        OrderMatcher x = matcher(list(100), list());
        due("ramp(7, -2, 3)", x.ramp(7, -2, 3), 4);
        due("ramp(5, 0, 2)", x.ramp(5, 0, 2), 6);
        due("ramp(-3, 10, 4)", x.ramp(-3, 10, 4), 10);
        textIs("ramps", x, 100, 7, 5, 3, 5, 5, -3, 7, 17, 27);
        due("patternLength() stays", x.patternLength(), 0);
    }

    private static void echo() {
        OrderMatcher x = matcher(list(3, -1, 4), list());
        due("echo of 2 from 1", x.echo(2 * 64 + 1, 2, 10), 5);
        due("echo of 3 from 0", x.echo(3 * 64, -1, 0), 8);
        due("echo of 1 from 7", x.echo(64 + 7, 0, 6), 9);
        textIs("echoes", x, 3, -1, 4, 8, 18, -3, 1, -4, 6);
        due("patternLength() stays", x.patternLength(), 0);
    }

    private static void undo() {
        OrderMatcher x = matcher(list(1, 2, 3, 4, 5), list(1, 2));
        due("undo(2)", x.undo(2), 3);
        textIs("undo(2)", x, 1, 2, 3);
        occurrencesAre("occurrences follow", x, 0, 1);
        due("patternLength() stays", x.patternLength(), 2);
        due("feed(9)", x.feed(9), 4);
        textIs("feed goes on from there", x, 1, 2, 3, 9);
    }

    private static void length() {
        OrderMatcher x = matcher(list(4), list(1, 2));
        due("length() after feed", x.length(), 1);
        x.ramp(1, 1, 10);
        due("length() after ramp", x.length(), 11);
        x.echo(5 * 64, 1, 1);
        due("length() after echo", x.length(), 16);
        x.undo(3);
        due("length() after undo", x.length(), 13);
    }

    private static void patternLength() {
        OrderMatcher x = matcher(list(1, 2, 3, 4, 5, 6, 7), list(4, 4));
        due("patternLength() after pattern", x.patternLength(), 2);
        x.take(1, 5);
        due("patternLength() after take", x.patternLength(), 5);
        x.pattern(0);
        due("patternLength() after take and pattern", x.patternLength(), 6);
        x.clearPattern();
        due("patternLength() after clearPattern", x.patternLength(), 0);
    }

    private static void valueAt() {
        OrderMatcher x = matcher(list(MIN, 7, MAX), list(1, 2, 3));
        due("valueAt(0)", x.valueAt(0), MIN);
        due("valueAt(1)", x.valueAt(1), 7);
        due("valueAt(2)", x.valueAt(2), MAX);
    }

    private static void occurrences() {
        int[] text = list(5, 5, 2, 8, 8, 1);
        occurrencesAre("same and less", matcher(text, list(4, 4, 3)), 0, 3);
        occurrencesAre("rising", matcher(text, list(1, 2)), 2);
        occurrencesAre("falling", matcher(text, list(2, 1)), 1, 4);
        occurrencesAre("the same", matcher(text, list(9, 9)), 0, 3);
        occurrencesAre("nowhere", matcher(text, list(1, 2, 3)));
        occurrencesAre("overlapping", matcher(list(1, 2, 1, 2, 1), list(0, 7, 0)), 0, 2);
    }

    private static void shapeIsThatOfEveryPair() {
        // Neighbours alone go alike here; only places further apart tell the lists apart.
        occurrencesAre("far places differ", matcher(list(1, 3, 2), list(2, 3, 1)));
        occurrencesAre("far places the same in one", matcher(list(1, 3, 1), list(1, 3, 2)));
        occurrencesAre("far places the same in the other", matcher(list(1, 3, 2), list(1, 3, 1)));
        occurrencesAre("first and last of ten",
            matcher(list(5, 1, 9, 2, 8, 3, 7, 4, 6, 5), list(5, 1, 10, 2, 9, 3, 8, 4, 7, 6)));
        occurrencesAre("ties at neighbours", matcher(list(1, 1, 2), list(1, 2)), 1);
        occurrencesAre("less is not greater", matcher(list(2, 1, 2), list(2, 1)), 0);
    }

    private static void shapeOfExtremeValues() {
        int[] text = list(MIN, MAX, MIN, 0, MAX, -1, MIN);
        occurrencesAre("rising over the whole range", matcher(text, list(MIN, MAX)), 0, 2, 3);
        occurrencesAre("rising by little", matcher(text, list(1, 2)), 0, 2, 3);
        occurrencesAre("falling over the whole range", matcher(text, list(MAX, MIN)), 1, 4, 5);
        occurrencesAre("up and back", matcher(text, list(0, 1, 0)), 0);
    }

    private static void occurrence() {
        OrderMatcher x = matcher(list(1, 2, 1, 2, 3), list(0, 1));
        due("occurrence(0)", x.occurrence(0), 0);
        due("occurrence(1)", x.occurrence(1), 2);
        due("occurrence(2)", x.occurrence(2), 3);
    }

    private static void occursAt() {
        OrderMatcher x = matcher(list(1, 2, 1, 2, 3), list(0, 1));
        due("occursAt(0)", x.occursAt(0), 1);
        due("occursAt(1)", x.occursAt(1), 0);
        due("occursAt(2)", x.occursAt(2), 1);
        due("occursAt(3)", x.occursAt(3), 1);
    }

    private static void nextFrom() {
        OrderMatcher x = matcher(list(4, 3, 5, 2, 1, 5, 0), list(0, 1));
        due("nextFrom(0)", x.nextFrom(0), 1);
        due("nextFrom(2)", x.nextFrom(2), 4);
        due("nextFrom(3)", x.nextFrom(3), 4);
    }

    private static void matchedAt() {
        OrderMatcher x = matcher(list(5, 6, 4, 7, 5, 5, 9), list(1, 3, 2, 4));
        int[] matched = {1, 2, 1, 2, 3, 1, 2};
        for (int p = 0; p < matched.length; p++) {
            due("matchedAt(" + p + ")", x.matchedAt(p), matched[p]);
        }
    }

    private static void border() {
        OrderMatcher x = matcher(list(), list(1, 3, 2, 4, 3, 5, 4, 4));
        int[] borders = {0, 1, 1, 2, 3, 4, 5, 1};
        for (int k = 1; k <= borders.length; k++) {
            due("border(" + k + ")", x.border(k), borders[k - 1]);
        }
    }

    private static void period() {
        due("rise and fall", matcher(list(), list(1, 2, 1)).period(), 2);
        due("two by two", matcher(list(), list(1, 3, 2, 4, 3, 5)).period(), 2);
        due("three by three", matcher(list(), list(1, 1, 2, 1, 1, 2, 1)).period(), 3);
        due("all rising", matcher(list(), list(1, 2, 3, 9)).period(), 1);
        due("only the last value", matcher(list(), list(1, 2, 3, 3)).period(), 3);
    }

    private static void rank() {
        ranksAre("ties and order", matcher(list(), list(5, 2, 5, 7, 2, 5)), 0, 0, 17, 3, 16, 34);
        ranksAre("extreme values", matcher(list(), list(MAX, MIN, 0, MAX, MIN)), 0, 0, 1, 18, 16);
    }

    private static void disjoint() {
        due("all rising", matcher(list(1, 2, 3, 4, 5, 6, 7), list(1, 2)).disjoint(), 3);
        due("apart", matcher(list(1, 2, 0, 0, 5, 6), list(1, 2)).disjoint(), 2);
        due("a chain of overlaps", matcher(list(1, 2, 1, 2, 1, 2, 1, 2, 1), list(1, 2, 1)).disjoint(), 2);
    }
}
