import java.util.ArrayList;
import java.util.List;
import java.util.function.Consumer;
import java.util.function.Supplier;
import java.util.function.ToIntFunction;

/**
 * One test for each sentence of the document that names a boundary case: too small, too large,
 * empty, full, a wrap-around, a refused call. A test is told by the sentence it stands for.
 */
public final class BoundariesTest extends Checks {
    public static void main(String[] args) {
        termsAndUse();
        changesOfThePattern();
        changesOfTheText();
        questionsOnTheText();
        questionsOnThePattern();
        end();
    }

    private static void termsAndUse() {
        test("An object is used for at most 512 calls", BoundariesTest::call512IsAnswered);
        test("THE TEXT is a list of at most 60 ints", BoundariesTest::textHoldsSixtyInts);
        test("THE PATTERN a list of at most 10 ints", BoundariesTest::patternHoldsTenInts);
        test("Two empty lists have the same shape", BoundariesTest::emptyListsAreAlike);
        test("and any two lists of length 1", BoundariesTest::singleValuesAreAlike);
        test("0 <= p, p + length of the pattern <= length of the text", BoundariesTest::occurrenceLiesInTheText);
        test("is there if the pattern is not empty", BoundariesTest::emptyPatternOccursNowhere);
        test("A BORDER of a list is a number k, 0 <= k < its length", BoundariesTest::borderIsShorterThanItsList);
        test("No question changes anything", BoundariesTest::questionsChangeNothing);
        test("A refused call changes nothing: pattern", BoundariesTest::refusedPatternChangesNothing);
        test("A refused call changes nothing: take", BoundariesTest::refusedTakeChangesNothing);
        test("A refused call changes nothing: feed", BoundariesTest::refusedFeedChangesNothing);
        test("A refused call changes nothing: ramp", BoundariesTest::refusedRampChangesNothing);
        test("A refused call changes nothing: echo", BoundariesTest::refusedEchoChangesNothing);
        test("A refused call changes nothing: undo", BoundariesTest::refusedUndoChangesNothing);
        test("the tests are made in the order named: take", BoundariesTest::takeLooksAtCountFirst);
        test("the tests are made in the order named: ramp", BoundariesTest::rampLooksAtCountFirst);
        test("the tests are made in the order named: echo", BoundariesTest::echoLooksAtCountThenPlaceThenRoom);
    }

    private static void changesOfThePattern() {
        test("1: Both lists are empty at first", BoundariesTest::newObjectIsEmpty);
        test("2: -1 if the pattern has 10 values", BoundariesTest::patternWhenFull);
        test("2: otherwise answers its new length", BoundariesTest::patternUpToTen);
        test("3: The pattern becomes empty", BoundariesTest::clearPatternLeavesNone);
        test("3: answers how many values it had", BoundariesTest::clearPatternOfNoneAndOfTen);
        test("4: -1 if count is not in 0 .. 10", BoundariesTest::takeOfTooFewOrTooMany);
        test("4: -2 if first < 0", BoundariesTest::takeBeforeTheText);
        test("4: or first + count is greater than the text's length", BoundariesTest::takeBeyondTheText);
        test("4: first may be any int; it is compared without wrapping", BoundariesTest::takeComparesWithoutWrapping);
        test("4: otherwise answers count: none", BoundariesTest::takeOfNone);
        test("4: otherwise answers count: ten", BoundariesTest::takeOfTen);
    }

    private static void changesOfTheText() {
        test("5: -1 if the text has 60 values", BoundariesTest::feedWhenFull);
        test("5: otherwise answers its new length", BoundariesTest::feedUpToSixty);
        test("6: start + 2 * step, .. (wrapping like ints)", BoundariesTest::rampWraps);
        test("6: -1 if count is not in 1 .. 60", BoundariesTest::rampOfTooFewOrTooMany);
        test("6: -2 if the text would have more than 60 values", BoundariesTest::rampWithoutRoom);
        test("6: otherwise answers its new length", BoundariesTest::rampOfOneAndOfSixty);
        test("7: each times scale and plus shift (wrapping like ints)", BoundariesTest::echoWraps);
        test("7: -1 if count is not in 1 .. 20", BoundariesTest::echoOfTooFewOrTooMany);
        test("7: -2 if first < 0 or first > length of the text - count", BoundariesTest::echoBeyondTheText);
        test("7: -3 if the text would have more than 60 values", BoundariesTest::echoWithoutRoom);
        test("7: otherwise answers its new length", BoundariesTest::echoOfOneAndOfTwenty);
        test("7: shape is 64 * count + first, for shape >= 0", BoundariesTest::echoShapeAtItsEdges);
        test("7: a negative shape is the case of -1", BoundariesTest::echoOfNegativeShape);
        test("8: -1 if count is not in 0 .. length of the text", BoundariesTest::undoOfTooFewOrTooMany);
        test("8: otherwise answers its new length", BoundariesTest::undoOfNoneAndOfAll);
    }

    private static void questionsOnTheText() {
        test("9: The text's length", BoundariesTest::lengthEmptyAndFull);
        test("10: The pattern's length", BoundariesTest::patternLengthEmptyAndFull);
        test("11: 0 if p is not in 0 .. length()-1", BoundariesTest::valueOutsideTheText);
        test("12: How many occurrences there are", BoundariesTest::occurrencesNoneAndMost);
        test("13: 0 for the first", BoundariesTest::occurrenceFirstAndLast);
        test("13: -1 if there is no such one", BoundariesTest::occurrenceThatIsNotThere);
        test("14: otherwise 0 (also for any p outside)", BoundariesTest::occursOutside);
        test("15: that is at least from (any int)", BoundariesTest::nextFromAnyInt);
        test("15: -1 if there is none", BoundariesTest::nextFromWhenThereIsNone);
        test("16: The greatest k, at most the pattern's length", BoundariesTest::matchedAtMostThePattern);
        test("16: the k values of the text that end with the value at p", BoundariesTest::matchedAtTheTextsStart);
        test("16: -1 if p is not in 0 .. length()-1", BoundariesTest::matchedOutsideTheText);
    }

    private static void questionsOnThePattern() {
        test("17: The greatest border of the pattern's first k values", BoundariesTest::borderOfOneAndOfTen);
        test("17: -1 if k is not in 1 .. patternLength()", BoundariesTest::borderOfTooFewOrTooMany);
        test("18: s is the pattern's length if nothing less does", BoundariesTest::periodOfOneValue);
        test("18: The least number s >= 1", BoundariesTest::periodLeastAndGreatest);
        test("18: 0 if the pattern is empty", BoundariesTest::periodOfNone);
        test("19: How many of the pattern's values before the one at place i", BoundariesTest::rankOfFirstAndLast);
        test("19: plus 16 times how many of them are the same", BoundariesTest::rankOfTenTheSame);
        test("19: -1 if i is not in 0 .. patternLength()-1", BoundariesTest::rankOutsideThePattern);
        test("20: no two of which share a position of the text", BoundariesTest::disjointMayTouch);
        test("20: The greatest number of occurrences", BoundariesTest::disjointNoneAndMost);
    }

    // The terms, and what holds for every method.

    private static void call512IsAnswered() {
        OrderMatcher x = new OrderMatcher();
        for (int call = 0; call < 508; call += 4) {
            due("feed as call " + (call + 1), x.feed(call), 1);
            due("pattern as call " + (call + 2), x.pattern(call), 1);
            due("undo as call " + (call + 3), x.undo(1), 0);
            due("clearPattern as call " + (call + 4), x.clearPattern(), 1);
        }
        due("pattern as call 509", x.pattern(7), 1);
        due("feed as call 510", x.feed(3), 1);
        due("valueAt as call 511", x.valueAt(0), 3);
        due("occurrences as call 512", x.occurrences(), 1);
    }

    private static void textHoldsSixtyInts() {
        int[] ints = {MIN, MAX, 0, -1, 1, MIN + 1, MAX - 1};
        OrderMatcher x = new OrderMatcher();
        for (int p = 0; p < 60; p++) {
            x.feed(ints[p % ints.length]);
        }
        due("length()", x.length(), 60);
        due("feed(5)", x.feed(5), -1);
        due("ramp(5, 5, 1)", x.ramp(5, 5, 1), -2);
        due("echo(64, 1, 0)", x.echo(64, 1, 0), -3);
        due("length() after all three", x.length(), 60);
        for (int p = 0; p < 60; p++) {
            due("valueAt(" + p + ")", x.valueAt(p), ints[p % ints.length]);
        }
    }

    private static void patternHoldsTenInts() {
        OrderMatcher x = matcher(list(), list(0, MIN, MAX, -1, 1, MIN + 1, MAX - 1, MIN, MAX, 0));
        due("pattern(5)", x.pattern(5), -1);
        ranksAre("all ten", x, 0, 0, 2, 1, 3, 1, 5, 16, 23, 20);
        OrderMatcher y = rising(60);
        due("take(50, 10)", y.take(50, 10), 10);
        due("pattern(5) after take", y.pattern(5), -1);
        due("take(0, 11)", y.take(0, 11), -1);
        due("patternLength()", y.patternLength(), 10);
    }

    private static void emptyListsAreAlike() {
        OrderMatcher x = matcher(list(4, 5), list());
        due("matchedAt(0) of the empty pattern", x.matchedAt(0), 0);
        due("matchedAt(1) of the empty pattern", x.matchedAt(1), 0);
        due("border(1): none of one value", matcher(list(), list(7)).border(1), 0);
    }

    private static void singleValuesAreAlike() {
        OrderMatcher x = matcher(list(MIN, 0, 0, MAX), list(7));
        occurrencesAre("one value occurs everywhere", x, 0, 1, 2, 3);
        for (int p = 0; p < 4; p++) {
            due("matchedAt(" + p + ")", x.matchedAt(p), 1);
        }
        due("border(2) of a rise", matcher(list(), list(MIN, MAX)).border(2), 1);
        due("border(2) of a fall", matcher(list(), list(MAX, MIN)).border(2), 1);
        due("border(2) of the same", matcher(list(), list(0, 0)).border(2), 1);
    }

    private static void occurrenceLiesInTheText() {
        occurrencesAre("as long as the text", matcher(list(5, 5, 2), list(3, 3, 1)), 0);
        occurrencesAre("longer than the text by one", matcher(list(1, 2, 3), list(1, 2, 3, 4)));
        occurrencesAre("up to the text's last value", matcher(list(3, 2, 1, 5), list(1, 2)), 2);
        OrderMatcher x = matcher(list(1, 2, 3, 4, 5), list(1, 2, 3));
        occurrencesAre("before undo", x, 0, 1, 2);
        x.undo(1);
        occurrencesAre("values taken away are not seen", x, 0, 1);
        due("occursAt(2)", x.occursAt(2), 0);
        due("nextFrom(2)", x.nextFrom(2), -1);
        x.undo(2);
        occurrencesAre("no room is left", x);
    }

    private static void emptyPatternOccursNowhere() {
        OrderMatcher x = matcher(list(1, 2, 3), list());
        occurrencesAre("never filled", x);
        due("occursAt(0)", x.occursAt(0), 0);
        due("occursAt(3)", x.occursAt(3), 0);
        due("nextFrom(0)", x.nextFrom(0), -1);
        due("disjoint()", x.disjoint(), 0);
        x.pattern(1);
        x.clearPattern();
        occurrencesAre("made empty", x);
        x.undo(3);
        occurrencesAre("in an empty text", x);
        due("occursAt(0) in an empty text", x.occursAt(0), 0);
    }

    private static void borderIsShorterThanItsList() {
        OrderMatcher x = matcher(list(), list(4, 4, 4));
        due("border(1)", x.border(1), 0);
        due("border(2)", x.border(2), 1);
        due("border(3)", x.border(3), 2);
    }

    private static void questionsChangeNothing() {
        questionsLeave("a new object", OrderMatcher::new);
        questionsLeave("an ordinary one", BoundariesTest::ordinary);
        questionsLeave("a full one", BoundariesTest::full);
        questionsLeave("a pattern longer than the text", () -> matcher(list(1), list(1, 2, 3)));
        questionsLeave("a text without a pattern", () -> rising(4));
        OrderMatcher x = ordinary();
        someQuestionsTo(x);
        textIs("after questions", x, 3, 7, 5, 5, 9, 12, 10);
        ranksAre("after questions", x, 0, 0, 1);
        x.pattern(30);
        due("the pattern's first value is still 30: rank(3)", x.rank(3), 18);
    }

    private static void refusedPatternChangesNothing() {
        refusalLeaves("pattern(0) when full", BoundariesTest::fullPattern, x -> x.pattern(0), -1);
        refusalLeaves("pattern(MAX) when full", BoundariesTest::full, x -> x.pattern(MAX), -1);
    }

    private static void refusedTakeChangesNothing() {
        refusalLeaves("take(0, -1)", BoundariesTest::ordinary, x -> x.take(0, -1), -1);
        refusalLeaves("take(0, 11)", BoundariesTest::full, x -> x.take(0, 11), -1);
        refusalLeaves("take(-1, 2)", BoundariesTest::ordinary, x -> x.take(-1, 2), -2);
        refusalLeaves("take(6, 2)", BoundariesTest::ordinary, x -> x.take(6, 2), -2);
        refusalLeaves("take(8, 0)", BoundariesTest::ordinary, x -> x.take(8, 0), -2);
        refusalLeaves("take(MAX, 10)", BoundariesTest::ordinary, x -> x.take(MAX, 10), -2);
    }

    private static void refusedFeedChangesNothing() {
        refusalLeaves("feed(0) when full", BoundariesTest::fullText, x -> x.feed(0), -1);
        refusalLeaves("feed(MIN) when full", BoundariesTest::full, x -> x.feed(MIN), -1);
    }

    private static void refusedRampChangesNothing() {
        refusalLeaves("ramp(9, 1, 0)", BoundariesTest::ordinary, x -> x.ramp(9, 1, 0), -1);
        refusalLeaves("ramp(9, 1, -1)", BoundariesTest::ordinary, x -> x.ramp(9, 1, -1), -1);
        refusalLeaves("ramp(9, 1, 61)", BoundariesTest::ordinary, x -> x.ramp(9, 1, 61), -1);
        refusalLeaves("ramp(9, 1, 54)", BoundariesTest::ordinary, x -> x.ramp(9, 1, 54), -2);
        refusalLeaves("ramp(9, 1, 1) when full", BoundariesTest::fullText, x -> x.ramp(9, 1, 1), -2);
    }

    private static void refusedEchoChangesNothing() {
        refusalLeaves("echo(-65, 1, 0)", BoundariesTest::ordinary, x -> x.echo(-65, 1, 0), -1);
        refusalLeaves("echo of 0", BoundariesTest::ordinary, x -> x.echo(3, 1, 0), -1);
        refusalLeaves("echo of 21", BoundariesTest::full, x -> x.echo(21 * 64, 1, 0), -1);
        refusalLeaves("echo of 2 from 6", BoundariesTest::ordinary, x -> x.echo(2 * 64 + 6, 1, 0), -2);
        refusalLeaves("echo of 1 when full", BoundariesTest::fullText, x -> x.echo(64, 1, 0), -3);
        refusalLeaves("echo of 20 with room for 19", () -> rising(41), x -> x.echo(20 * 64, 1, 0), -3);
    }

    private static void refusedUndoChangesNothing() {
        refusalLeaves("undo(-1)", BoundariesTest::ordinary, x -> x.undo(-1), -1);
        refusalLeaves("undo(8)", BoundariesTest::ordinary, x -> x.undo(8), -1);
        refusalLeaves("undo(61)", BoundariesTest::full, x -> x.undo(61), -1);
        refusalLeaves("undo(1) of none", OrderMatcher::new, x -> x.undo(1), -1);
    }

    private static void takeLooksAtCountFirst() {
        OrderMatcher x = rising(12);
        due("take(-1, 11)", x.take(-1, 11), -1);
        due("take(-1, -1)", x.take(-1, -1), -1);
        due("take(2, 11)", x.take(2, 11), -1);
        due("take(13, -1)", x.take(13, -1), -1);
        due("take(MAX, MAX)", x.take(MAX, MAX), -1);
        due("take(MIN, MIN)", x.take(MIN, MIN), -1);
    }

    private static void rampLooksAtCountFirst() {
        OrderMatcher x = rising(60);
        due("ramp(1, 1, 0) when full", x.ramp(1, 1, 0), -1);
        due("ramp(1, 1, 61) when full", x.ramp(1, 1, 61), -1);
        due("ramp(1, 1, MAX) when full", x.ramp(1, 1, MAX), -1);
    }

    private static void echoLooksAtCountThenPlaceThenRoom() {
        OrderMatcher x = rising(60);
        due("echo of 21 from 60: count before place", x.echo(21 * 64 + 60, 1, 0), -1);
        due("echo of 0 from 63: count before place", x.echo(63, 1, 0), -1);
        due("echo of 21 from 0: count before room", x.echo(21 * 64, 1, 0), -1);
        due("echo of 20 from 41: place before room", x.echo(20 * 64 + 41, 1, 0), -2);
        due("echo of 1 from 60: place before room", x.echo(64 + 60, 1, 0), -2);
        due("echo of 20 from 40: room alone", x.echo(20 * 64 + 40, 1, 0), -3);
    }

    // Promises 1 to 4.

    private static void newObjectIsEmpty() {
        OrderMatcher x = new OrderMatcher();
        due("length()", x.length(), 0);
        due("patternLength()", x.patternLength(), 0);
        due("valueAt(0)", x.valueAt(0), 0);
        due("occurrences()", x.occurrences(), 0);
        due("occurrence(0)", x.occurrence(0), -1);
        due("occursAt(0)", x.occursAt(0), 0);
        due("nextFrom(0)", x.nextFrom(0), -1);
        due("matchedAt(0)", x.matchedAt(0), -1);
        due("border(1)", x.border(1), -1);
        due("period()", x.period(), 0);
        due("rank(0)", x.rank(0), -1);
        due("disjoint()", x.disjoint(), 0);
        due("undo(1)", x.undo(1), -1);
        due("take(0, 1)", x.take(0, 1), -2);
        due("echo(64, 1, 0)", x.echo(64, 1, 0), -2);
        due("clearPattern()", x.clearPattern(), 0);
    }

    private static void patternWhenFull() {
        OrderMatcher x = matcher(list(), list(1, 2, 3, 4, 5, 6, 7, 8, 9, 10));
        due("pattern(0)", x.pattern(0), -1);
        due("pattern(0) again", x.pattern(0), -1);
        x.clearPattern();
        due("pattern(0) after clearPattern", x.pattern(0), 1);
    }

    private static void patternUpToTen() {
        OrderMatcher x = rising(60);
        for (int i = 1; i <= 10; i++) {
            due("pattern as the value " + i, x.pattern(-i), i);
        }
        ranksAre("ten falling", x, 0, 0, 0, 0, 0, 0, 0, 0, 0, 0);
    }

    private static void clearPatternLeavesNone() {
        OrderMatcher x = matcher(list(1, 2), list(1, 2, 3, 4, 5, 6, 7, 8, 9, 10));
        x.clearPattern();
        due("patternLength()", x.patternLength(), 0);
        due("rank(0)", x.rank(0), -1);
        due("border(1)", x.border(1), -1);
        due("period()", x.period(), 0);
        due("length() stays", x.length(), 2);
    }

    private static void clearPatternOfNoneAndOfTen() {
        OrderMatcher x = matcher(list(1, 2), list());
        due("clearPattern() of none", x.clearPattern(), 0);
        x.pattern(5);
        due("clearPattern() of one", x.clearPattern(), 1);
        due("clearPattern() again", x.clearPattern(), 0);
        for (int i = 0; i < 10; i++) {
            x.pattern(i);
        }
        due("clearPattern() of ten", x.clearPattern(), 10);
    }

    private static void takeOfTooFewOrTooMany() {
        OrderMatcher x = rising(12);
        due("take(0, -1)", x.take(0, -1), -1);
        due("take(0, 0)", x.take(0, 0), 0);
        due("take(0, 10)", x.take(0, 10), 10);
        due("take(0, 11)", x.take(0, 11), -1);
        due("take(0, MIN)", x.take(0, MIN), -1);
        due("take(0, MAX)", x.take(0, MAX), -1);
    }

    private static void takeBeforeTheText() {
        OrderMatcher x = rising(12);
        due("take(-1, 0)", x.take(-1, 0), -2);
        due("take(-1, 1)", x.take(-1, 1), -2);
        due("take(-1, 10)", x.take(-1, 10), -2);
        due("take(-10, 10)", x.take(-10, 10), -2);
        due("take(0, 1)", x.take(0, 1), 1);
    }

    private static void takeBeyondTheText() {
        OrderMatcher x = rising(12);
        due("take(2, 10)", x.take(2, 10), 10);
        due("take(3, 10)", x.take(3, 10), -2);
        due("take(11, 1)", x.take(11, 1), 1);
        due("take(12, 1)", x.take(12, 1), -2);
        due("take(13, 0)", x.take(13, 0), -2);
        x.undo(10);
        due("take(0, 2) of what undo left", x.take(0, 2), 2);
        due("take(0, 3) of what undo left", x.take(0, 3), -2);
    }

    private static void takeComparesWithoutWrapping() {
        OrderMatcher x = rising(60);
        due("take(MAX, 0)", x.take(MAX, 0), -2);
        due("take(MAX, 1)", x.take(MAX, 1), -2);
        due("take(MAX, 10)", x.take(MAX, 10), -2);
        due("take(MAX - 9, 10)", x.take(MAX - 9, 10), -2);
        due("take(MIN, 0)", x.take(MIN, 0), -2);
        due("take(MIN, 10)", x.take(MIN, 10), -2);
    }

    private static void takeOfNone() {
        OrderMatcher x = matcher(list(1, 2), list(5, 6));
        due("take(2, 0) at the text's end", x.take(2, 0), 0);
        due("patternLength()", x.patternLength(), 0);
        x.pattern(5);
        due("take(0, 0) at the text's start", x.take(0, 0), 0);
        due("patternLength()", x.patternLength(), 0);
        due("take(0, 0) of an empty text", new OrderMatcher().take(0, 0), 0);
    }

    private static void takeOfTen() {
        OrderMatcher x = matcher(list(5, 5, 1, 9, 2, 7, 4, 6, 0, 3), list(1, 2));
        due("take(0, 10) of the whole text", x.take(0, 10), 10);
        ranksAre("take(0, 10)", x, 0, 16, 0, 3, 1, 4, 2, 5, 0, 3);
        due("take(9, 1) of the last value", x.take(9, 1), 1);
        due("patternLength()", x.patternLength(), 1);
        x.pattern(3);
        due("the last value itself: rank(1)", x.rank(1), 16);
    }

    // Promises 5 to 8.

    private static void feedWhenFull() {
        OrderMatcher x = rising(60);
        due("feed(7)", x.feed(7), -1);
        due("feed(7) again", x.feed(7), -1);
        x.undo(1);
        due("feed(-4) after undo", x.feed(-4), 60);
        due("valueAt(59)", x.valueAt(59), -4);
    }

    private static void feedUpToSixty() {
        OrderMatcher x = matcher(list(), list(1, 2, 3, 4, 5, 6, 7, 8, 9, 10));
        for (int i = 1; i <= 60; i++) {
            due("feed as the value " + i, x.feed(3 * i), i);
            due("valueAt(" + (i - 1) + ")", x.valueAt(i - 1), 3 * i);
        }
    }

    private static void rampWraps() {
        OrderMatcher x = new OrderMatcher();
        x.ramp(MAX, 1, 3);
        x.ramp(MIN, -1, 2);
        x.ramp(1, MAX, 4);
        x.ramp(0, MIN, 3);
        textIs("ramps that wrap", x, MAX, MIN, MIN + 1, MIN, MAX, 1, MIN, -1, MAX - 1, 0, MIN, 0);
    }

    private static void rampOfTooFewOrTooMany() {
        OrderMatcher x = new OrderMatcher();
        due("ramp(1, 1, 0)", x.ramp(1, 1, 0), -1);
        due("ramp(1, 1, -1)", x.ramp(1, 1, -1), -1);
        due("ramp(1, 1, 61)", x.ramp(1, 1, 61), -1);
        due("ramp(1, 1, MIN)", x.ramp(1, 1, MIN), -1);
        due("ramp(1, 1, MAX)", x.ramp(1, 1, MAX), -1);
    }

    private static void rampWithoutRoom() {
        OrderMatcher x = rising(1);
        due("ramp(1, 1, 60) after one value", x.ramp(1, 1, 60), -2);
        due("ramp(1, 1, 59) after one value", x.ramp(1, 1, 59), 60);
        due("ramp(1, 1, 1) when full", x.ramp(1, 1, 1), -2);
        due("ramp(1, 1, 60) when full", x.ramp(1, 1, 60), -2);
        x.undo(25);
        due("ramp(1, 1, 26) with room for 25", x.ramp(1, 1, 26), -2);
        due("ramp(1, 1, 25) with room for 25", x.ramp(1, 1, 25), 60);
    }

    private static void rampOfOneAndOfSixty() {
        OrderMatcher x = new OrderMatcher();
        due("ramp(9, 5, 1)", x.ramp(9, 5, 1), 1);
        textIs("ramp(9, 5, 1)", x, 9);
        x.undo(1);
        due("ramp(7, -3, 60)", x.ramp(7, -3, 60), 60);
        for (int p = 0; p < 60; p++) {
            due("valueAt(" + p + ")", x.valueAt(p), 7 - 3 * p);
        }
    }

    private static void echoWraps() {
        OrderMatcher x = matcher(list(MAX, MIN), list());
        x.echo(2 * 64, 2, 0);
        x.echo(2 * 64, 1, 1);
        x.echo(64 + 1, -1, -1);
        x.echo(64, MAX, 0);
        x.echo(64, MIN, MIN);
        textIs("echoes that wrap", x, MAX, MIN, -2, 0, MIN, MIN + 1, MAX, 1, 0);
    }

    private static void echoOfTooFewOrTooMany() {
        OrderMatcher x = rising(30);
        due("echo of 0 from 0", x.echo(0, 1, 0), -1);
        due("echo of 0 from 29", x.echo(29, 1, 0), -1);
        due("echo of 0 from 63", x.echo(63, 1, 0), -1);
        due("echo of 21 from 0", x.echo(21 * 64, 1, 0), -1);
        due("echo of 21 from 9", x.echo(21 * 64 + 9, 1, 0), -1);
        due("echo of 64 from 0", x.echo(64 * 64, 1, 0), -1);
        due("echo(MAX, 1, 0)", x.echo(MAX, 1, 0), -1);
    }

    private static void echoBeyondTheText() {
        OrderMatcher x = rising(30);
        due("echo of 1 from 30", x.echo(64 + 30, 1, 0), -2);
        due("echo of 20 from 11", x.echo(20 * 64 + 11, 1, 0), -2);
        due("echo of 20 from 10", x.echo(20 * 64 + 10, 1, 0), 50);
        x.undo(45);
        due("echo of 6 from 0 when undo left 5", x.echo(6 * 64, 1, 0), -2);
        due("echo of 5 from 0 when undo left 5", x.echo(5 * 64, 1, 0), 10);
        due("echo of 1 from 0 of an empty text", new OrderMatcher().echo(64, 1, 0), -2);
    }

    private static void echoWithoutRoom() {
        OrderMatcher x = rising(45);
        due("echo of 16 from 0 with room for 15", x.echo(16 * 64, 1, 0), -3);
        due("echo of 16 from 29 with room for 15", x.echo(16 * 64 + 29, 1, 0), -3);
        due("echo of 20 from 0 with room for 15", x.echo(20 * 64, 1, 0), -3);
        due("echo of 15 from 30 with room for 15", x.echo(15 * 64 + 30, 1, 0), 60);
        due("echo of 1 from 0 when full", x.echo(64, 1, 0), -3);
        due("echo of 1 from 59 when full", x.echo(64 + 59, 1, 0), -3);
    }

    private static void echoOfOneAndOfTwenty() {
        OrderMatcher x = rising(20);
        due("echo of 20 from 0", x.echo(20 * 64, 1, 100), 40);
        due("echo of 20 from 20", x.echo(20 * 64 + 20, 1, 100), 60);
        for (int i = 0; i < 20; i++) {
            due("valueAt(" + (20 + i) + ")", x.valueAt(20 + i), 101 + i);
            due("valueAt(" + (40 + i) + ")", x.valueAt(40 + i), 201 + i);
        }
        x.undo(1);
        due("echo of 1 from 58", x.echo(64 + 58, 3, 0), 60);
        due("valueAt(59)", x.valueAt(59), 657);
    }

    private static void echoShapeAtItsEdges() {
        OrderMatcher x = rising(40);
        due("echo(63): 0 from 63", x.echo(63, 1, 0), -1);
        due("echo(64): 1 from 0", x.echo(64, 1, 0), 41);
        due("echo(127): 1 from 63", x.echo(127, 1, 0), -2);
        due("echo(128): 2 from 0", x.echo(128, 1, 0), 43);
        due("echo(1343): 20 from 63", x.echo(1343, 1, 0), -2);
        due("echo(1344): 21 from 0", x.echo(1344, 1, 0), -1);
    }

    private static void echoOfNegativeShape() {
        OrderMatcher x = rising(30);
        due("echo(-1, 1, 0)", x.echo(-1, 1, 0), -1);
        due("echo(-63, 1, 0)", x.echo(-63, 1, 0), -1);
        due("echo(-64, 1, 0)", x.echo(-64, 1, 0), -1);
        due("echo(-65, 1, 0)", x.echo(-65, 1, 0), -1);
        due("echo(-128, 1, 0)", x.echo(-128, 1, 0), -1);
        due("echo(MIN, 1, 0)", x.echo(MIN, 1, 0), -1);
        // A shift or a mask that forgets the sign would see 1 from 0 and 20 from 10 here.
        due("echo(MIN + 64, 1, 0)", x.echo(MIN + 64, 1, 0), -1);
        due("echo(MIN + 1290, 1, 0)", x.echo(MIN + 20 * 64 + 10, 1, 0), -1);
    }

    private static void undoOfTooFewOrTooMany() {
        OrderMatcher x = rising(4);
        due("undo(-1)", x.undo(-1), -1);
        due("undo(5)", x.undo(5), -1);
        // One too many would leave -1 values, the very answer of a refusal: the length tells them apart.
        due("length() after undo(5)", x.length(), 4);
        due("undo(MIN)", x.undo(MIN), -1);
        due("undo(MAX)", x.undo(MAX), -1);
        due("undo(1) of an empty text", new OrderMatcher().undo(1), -1);
        due("undo(-1) of a full text", rising(60).undo(-1), -1);
        due("undo(61) of a full text", rising(60).undo(61), -1);
    }

    private static void undoOfNoneAndOfAll() {
        OrderMatcher x = rising(4);
        due("undo(0)", x.undo(0), 4);
        textIs("undo(0)", x, 1, 2, 3, 4);
        due("undo(1)", x.undo(1), 3);
        textIs("undo(1)", x, 1, 2, 3);
        due("undo(3)", x.undo(3), 0);
        textIs("undo(3)", x);
        due("undo(0) of an empty text", x.undo(0), 0);
        due("undo(60) of a full text", rising(60).undo(60), 0);
    }

    // Promises 9 to 16.

    private static void lengthEmptyAndFull() {
        due("length() of none", matcher(list(), list(1)).length(), 0);
        due("length() of 60", rising(60).length(), 60);
    }

    private static void patternLengthEmptyAndFull() {
        due("patternLength() of none", rising(5).patternLength(), 0);
        due("patternLength() of 10", matcher(list(), list(1, 2, 3, 4, 5, 6, 7, 8, 9, 10)).patternLength(), 10);
    }

    private static void valueOutsideTheText() {
        OrderMatcher x = matcher(list(4, 7, 9), list());
        due("valueAt(-1)", x.valueAt(-1), 0);
        due("valueAt(3)", x.valueAt(3), 0);
        due("valueAt(MIN)", x.valueAt(MIN), 0);
        due("valueAt(MAX)", x.valueAt(MAX), 0);
        x.undo(1);
        due("valueAt(2) after undo", x.valueAt(2), 0);
        due("valueAt(1) after undo", x.valueAt(1), 7);
        due("valueAt(59) of a full text", rising(60).valueAt(59), 60);
        due("valueAt(60) of a full text", rising(60).valueAt(60), 0);
        due("valueAt(-1) of a full text", rising(60).valueAt(-1), 0);
    }

    private static void occurrencesNoneAndMost() {
        due("in an empty text", matcher(list(), list(1)).occurrences(), 0);
        OrderMatcher x = rising(60);
        due("of an empty pattern", x.occurrences(), 0);
        x.pattern(0);
        due("one value in sixty", x.occurrences(), 60);
        x.take(50, 10);
        due("ten values in sixty", x.occurrences(), 51);
    }

    private static void occurrenceFirstAndLast() {
        OrderMatcher x = rising(60);
        x.pattern(0);
        due("occurrence(0) of sixty", x.occurrence(0), 0);
        due("occurrence(59) of sixty", x.occurrence(59), 59);
        x.take(50, 10);
        due("occurrence(50) of 51", x.occurrence(50), 50);
        due("the only one", matcher(list(3, 2, 1, 5), list(1, 2)).occurrence(0), 2);
    }

    private static void occurrenceThatIsNotThere() {
        OrderMatcher x = matcher(list(1, 2, 1, 2, 3), list(0, 1));
        due("occurrence(3) of three", x.occurrence(3), -1);
        due("occurrence(-1)", x.occurrence(-1), -1);
        due("occurrence(MIN)", x.occurrence(MIN), -1);
        due("occurrence(MAX)", x.occurrence(MAX), -1);
        x.clearPattern();
        due("occurrence(0) of an empty pattern", x.occurrence(0), -1);
        due("occurrence(0) in an empty text", matcher(list(), list(1)).occurrence(0), -1);
        OrderMatcher y = rising(60);
        y.pattern(0);
        due("occurrence(60) of sixty", y.occurrence(60), -1);
    }

    private static void occursOutside() {
        OrderMatcher x = matcher(list(1, 2, 3), list(0, 1));
        due("occursAt(-1)", x.occursAt(-1), 0);
        due("occursAt(1)", x.occursAt(1), 1);
        due("occursAt(2): too near to the end", x.occursAt(2), 0);
        due("occursAt(3)", x.occursAt(3), 0);
        due("occursAt(MIN)", x.occursAt(MIN), 0);
        due("occursAt(MAX)", x.occursAt(MAX), 0);
        due("occursAt(MAX - 1)", x.occursAt(MAX - 1), 0);
        OrderMatcher y = rising(60);
        y.pattern(0);
        due("occursAt(59) of a full text", y.occursAt(59), 1);
        due("occursAt(60) of a full text", y.occursAt(60), 0);
        due("occursAt(-1) of a full text", y.occursAt(-1), 0);
    }

    private static void nextFromAnyInt() {
        OrderMatcher x = matcher(list(3, 4, 2, 1, 5, 0), list(0, 1));
        due("nextFrom(MIN)", x.nextFrom(MIN), 0);
        due("nextFrom(-1)", x.nextFrom(-1), 0);
        due("nextFrom(0)", x.nextFrom(0), 0);
        due("nextFrom(1)", x.nextFrom(1), 3);
        due("nextFrom(3)", x.nextFrom(3), 3);
        due("nextFrom(MAX)", x.nextFrom(MAX), -1);
        OrderMatcher y = rising(60);
        y.pattern(0);
        due("nextFrom(59) of a full text", y.nextFrom(59), 59);
        due("nextFrom(60) of a full text", y.nextFrom(60), -1);
    }

    private static void nextFromWhenThereIsNone() {
        OrderMatcher x = matcher(list(3, 4, 2, 1, 5, 0), list(0, 1));
        due("nextFrom(4): after the last", x.nextFrom(4), -1);
        due("nextFrom(5)", x.nextFrom(5), -1);
        due("nextFrom(6)", x.nextFrom(6), -1);
        x.clearPattern();
        due("nextFrom(0) of an empty pattern", x.nextFrom(0), -1);
        due("nextFrom(MIN) of an empty pattern", x.nextFrom(MIN), -1);
        due("nextFrom(0) in an empty text", matcher(list(), list(1)).nextFrom(0), -1);
    }

    private static void matchedAtMostThePattern() {
        OrderMatcher x = rising(60);
        due("matchedAt(59) of an empty pattern", x.matchedAt(59), 0);
        x.pattern(0);
        due("matchedAt(59) of one value", x.matchedAt(59), 1);
        x.take(0, 10);
        due("matchedAt(9) of ten", x.matchedAt(9), 10);
        due("matchedAt(10) of ten", x.matchedAt(10), 10);
        due("matchedAt(59) of ten", x.matchedAt(59), 10);
    }

    private static void matchedAtTheTextsStart() {
        OrderMatcher x = rising(60);
        x.take(0, 10);
        for (int p = 0; p < 9; p++) {
            due("matchedAt(" + p + ")", x.matchedAt(p), p + 1);
        }
        due("matchedAt(1) of a pattern longer than the text",
            matcher(list(1, 2), list(1, 2, 3, 4)).matchedAt(1), 2);
    }

    private static void matchedOutsideTheText() {
        OrderMatcher x = matcher(list(1, 2, 3), list(1, 2));
        due("matchedAt(-1)", x.matchedAt(-1), -1);
        due("matchedAt(0)", x.matchedAt(0), 1);
        due("matchedAt(2)", x.matchedAt(2), 2);
        due("matchedAt(3)", x.matchedAt(3), -1);
        due("matchedAt(MIN)", x.matchedAt(MIN), -1);
        due("matchedAt(MAX)", x.matchedAt(MAX), -1);
        x.undo(1);
        due("matchedAt(2) after undo", x.matchedAt(2), -1);
        x.clearPattern();
        due("matchedAt(2) of an empty pattern", x.matchedAt(2), -1);
        due("matchedAt(-1) of an empty pattern", x.matchedAt(-1), -1);
        due("matchedAt(0) of an empty text", matcher(list(), list(1)).matchedAt(0), -1);
        due("matchedAt(60) of a full text", rising(60).matchedAt(60), -1);
    }

    // Promises 17 to 20.

    private static void borderOfOneAndOfTen() {
        OrderMatcher x = new OrderMatcher();
        for (int i = 0; i < 10; i++) {
            x.pattern(MAX - i);
        }
        due("border(1)", x.border(1), 0);
        due("border(2)", x.border(2), 1);
        due("border(9)", x.border(9), 8);
        due("border(10)", x.border(10), 9);
        due("border(10) with a late turn", matcher(list(), list(1, 2, 3, 4, 5, 6, 7, 8, 9, 9)).border(10), 1);
    }

    private static void borderOfTooFewOrTooMany() {
        OrderMatcher x = matcher(list(1, 2, 3, 4), list(1, 2, 3));
        due("border(0)", x.border(0), -1);
        due("border(-1)", x.border(-1), -1);
        due("border(3)", x.border(3), 2);
        due("border(4)", x.border(4), -1);
        due("border(MIN)", x.border(MIN), -1);
        due("border(MAX)", x.border(MAX), -1);
        x.clearPattern();
        due("border(0) of an empty pattern", x.border(0), -1);
        due("border(1) of an empty pattern", x.border(1), -1);
        OrderMatcher y = matcher(list(), list(1, 2, 3, 4, 5, 6, 7, 8, 9, 10));
        due("border(11) of ten", y.border(11), -1);
        due("border(0) of ten", y.border(0), -1);
    }

    private static void periodOfOneValue() {
        // With two values or more the last one alone always does, so only here nothing less does.
        due("period()", matcher(list(), list(4)).period(), 1);
    }

    private static void periodLeastAndGreatest() {
        due("two values", matcher(list(), list(4, 3)).period(), 1);
        due("ten the same", matcher(list(), list(6, 6, 6, 6, 6, 6, 6, 6, 6, 6)).period(), 1);
        due("ten with a late turn", matcher(list(), list(1, 2, 3, 4, 5, 6, 7, 8, 9, 9)).period(), 9);
    }

    private static void periodOfNone() {
        due("never filled", rising(3).period(), 0);
        OrderMatcher x = matcher(list(), list(1, 2, 3));
        x.clearPattern();
        due("made empty by clearPattern", x.period(), 0);
        OrderMatcher y = matcher(list(1), list(1, 2, 3));
        y.take(1, 0);
        due("made empty by take", y.period(), 0);
    }

    private static void rankOfFirstAndLast() {
        OrderMatcher x = matcher(list(), list(1, 2, 3, 4, 5, 6, 7, 8, 9, 10));
        due("rank(0): none before", x.rank(0), 0);
        due("rank(9): nine less", x.rank(9), 9);
        due("rank(0): values after it do not count", matcher(list(), list(5, 5, 4)).rank(0), 0);
    }

    private static void rankOfTenTheSame() {
        ranksAre("ten the same", matcher(list(), list(6, 6, 6, 6, 6, 6, 6, 6, 6, 6)),
            0, 16, 32, 48, 64, 80, 96, 112, 128, 144);
        due("eight less and one the same",
            matcher(list(), list(1, 2, 3, 4, 5, 6, 7, 8, 9, 9)).rank(9), 24);
    }

    private static void rankOutsideThePattern() {
        OrderMatcher x = matcher(list(1, 2, 3, 4), list(1, 2));
        due("rank(-1)", x.rank(-1), -1);
        due("rank(1)", x.rank(1), 1);
        due("rank(2)", x.rank(2), -1);
        due("rank(MIN)", x.rank(MIN), -1);
        due("rank(MAX)", x.rank(MAX), -1);
        x.clearPattern();
        due("rank(0) of an empty pattern", x.rank(0), -1);
        OrderMatcher y = matcher(list(), list(1, 2, 3, 4, 5, 6, 7, 8, 9, 10));
        due("rank(10) of ten", y.rank(10), -1);
        due("rank(-1) of ten", y.rank(-1), -1);
    }

    private static void disjointMayTouch() {
        due("one shared position", matcher(list(1, 2, 1, 2, 1), list(1, 2, 1)).disjoint(), 1);
        due("touching", matcher(list(1, 2, 1, 1, 2, 1), list(1, 2, 1)).disjoint(), 2);
        due("single values", matcher(list(1, 2, 2), list(7)).disjoint(), 3);
    }

    private static void disjointNoneAndMost() {
        due("an empty pattern", matcher(list(1, 2), list()).disjoint(), 0);
        due("an empty text", matcher(list(), list(1)).disjoint(), 0);
        due("no occurrence", matcher(list(1, 2, 3), list(2, 1)).disjoint(), 0);
        OrderMatcher x = rising(60);
        x.pattern(0);
        due("sixty of one", x.disjoint(), 60);
        x.take(0, 10);
        due("six of ten in sixty", x.disjoint(), 6);
        x.undo(1);
        due("five of ten in 59", x.disjoint(), 5);
    }

    // Objects for the refusals, and how "changes nothing" is seen from outside.

    private static OrderMatcher ordinary() {
        return matcher(list(3, 7, 5, 5, 9, 12, 10), list(30, 10, 20));
    }

    private static OrderMatcher fullText() {
        return matcher(rampUpAndDown(), list(30, 10, 20));
    }

    /** Every value stands there twice, so that a change of a single one changes the shape. */
    private static OrderMatcher fullPattern() {
        return matcher(list(3, 7, 5), list(1, 1, 2, 2, 3, 3, 4, 4, 5, 5));
    }

    private static OrderMatcher full() {
        return matcher(rampUpAndDown(), list(1, 1, 2, 2, 3, 3, 4, 4, 5, 5));
    }

    private static int[] rampUpAndDown() {
        int[] values = new int[60];
        for (int p = 0; p < 60; p++) {
            values[p] = p < 30 ? 5 + 3 * p : 50 - 2 * p;
        }
        return values;
    }

    private static void refusalLeaves(
            String call, Supplier<OrderMatcher> make, ToIntFunction<OrderMatcher> refused, int answer) {
        due(call, refused.applyAsInt(make.get()), answer);
        sameAfter(call, make, refused::applyAsInt);
    }

    private static void questionsLeave(String what, Supplier<OrderMatcher> make) {
        OrderMatcher x = make.get();
        due("the first questions to " + what + " and the same again", someQuestionsTo(x), someQuestionsTo(x));
        sameAfter("questions to " + what, make, BoundariesTest::someQuestionsTo);
    }

    /** Each comparison has objects of its own, since asking and trying might change them. */
    private static void sameAfter(String what, Supplier<OrderMatcher> make, Consumer<OrderMatcher> use) {
        OrderMatcher asked = make.get();
        use.accept(asked);
        due("all questions after " + what, allQuestionsTo(asked), allQuestionsTo(make.get()));
        OrderMatcher tried = make.get();
        use.accept(tried);
        due("changes after " + what, changesTo(tried), changesTo(make.get()));
    }

    private static List<Integer> someQuestionsTo(OrderMatcher x) {
        List<Integer> answers = new ArrayList<>();
        answers.addAll(List.of(x.length(), x.patternLength(), x.occurrences(), x.period(), x.disjoint()));
        for (int i : list(MIN, -1, 0, 1, 3, MAX)) {
            answers.addAll(List.of(x.valueAt(i), x.occurrence(i), x.occursAt(i), x.nextFrom(i)));
            answers.addAll(List.of(x.matchedAt(i), x.border(i), x.rank(i)));
        }
        return answers;
    }

    private static List<Integer> allQuestionsTo(OrderMatcher x) {
        List<Integer> answers = new ArrayList<>();
        answers.addAll(List.of(x.length(), x.patternLength(), x.occurrences(), x.period(), x.disjoint()));
        for (int p = 0; p <= 60; p++) {
            answers.addAll(List.of(x.valueAt(p), x.occurrence(p), x.occursAt(p), x.matchedAt(p)));
        }
        for (int i = 0; i <= 10; i++) {
            answers.addAll(List.of(x.rank(i), x.border(i)));
        }
        return answers;
    }

    /** The pattern's values themselves show only beside values put after them. */
    private static List<Integer> changesTo(OrderMatcher x) {
        List<Integer> answers = new ArrayList<>();
        for (int value : list(10, 20, 30, 15, 25)) {
            int length = x.pattern(value);
            answers.addAll(List.of(length, x.rank(length - 1)));
        }
        answers.addAll(List.of(x.feed(77), x.undo(1), x.clearPattern()));
        return answers;
    }
}
