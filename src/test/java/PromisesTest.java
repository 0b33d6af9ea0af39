/** Each promise by hand: ordinary inputs, the edges that the document names, and wrong inputs. */
public final class PromisesTest {
    private static final int MIN = Integer.MIN_VALUE;
    private static final int MAX = Integer.MAX_VALUE;

    private static int wrong = 0;

    public static void main(String[] args) {
        promise1NewObject();
        promise1ObjectsShareNothing();
        promise2Pattern();
        promise3ClearPattern();
        promise4Take();
        promise4TakeRefused();
        promise4TakeCopies();
        promise5Feed();
        promise6Ramp();
        promise6RampRefused();
        promise7Echo();
        promise7EchoRefused();
        promise8Undo();
        promise9Length();
        promise10PatternLength();
        promise11ValueAt();
        promise12Occurrences();
        promise12ShapeOfEveryPair();
        promise12ExtremeValues();
        promise13Occurrence();
        promise14OccursAt();
        promise15NextFrom();
        promise16MatchedAt();
        promise17Border();
        promise18Period();
        promise19Rank();
        promise20Disjoint();
        System.out.println(wrong == 0 ? "all answers are as due" : wrong + " answers are not as due");
        if (wrong != 0) {
            System.exit(1);
        }
    }

    private static void due(String call, int got, int want) {
        if (got != want) {
            wrong++;
            System.out.println(call + " answered " + got + ", due is " + want);
        }
    }

    private static OrderMatcher matcher(int[] text, int[] pattern) {
        OrderMatcher x = new OrderMatcher();
        for (int value : text) {
            x.feed(value);
        }
        for (int value : pattern) {
            x.pattern(value);
        }
        return x;
    }

    private static int[] list(int... values) {
        return values;
    }

    private static void textIs(String when, OrderMatcher x, int... values) {
        due(when + ": length()", x.length(), values.length);
        for (int p = 0; p < values.length; p++) {
            due(when + ": valueAt(" + p + ")", x.valueAt(p), values[p]);
        }
    }

    private static void ranksAre(String when, OrderMatcher x, int... ranks) {
        due(when + ": patternLength()", x.patternLength(), ranks.length);
        for (int i = 0; i < ranks.length; i++) {
            due(when + ": rank(" + i + ")", x.rank(i), ranks[i]);
        }
    }

    private static void occurrencesAre(String when, OrderMatcher x, int... positions) {
        due(when + ": occurrences()", x.occurrences(), positions.length);
        for (int i = 0; i < positions.length; i++) {
            due(when + ": occurrence(" + i + ")", x.occurrence(i), positions[i]);
        }
        due(when + ": occurrence after the last", x.occurrence(positions.length), -1);
    }

    private static void promise1NewObject() {
        OrderMatcher x = new OrderMatcher();
        due("1 length()", x.length(), 0);
        due("1 patternLength()", x.patternLength(), 0);
        due("1 valueAt(0)", x.valueAt(0), 0);
        due("1 occurrences()", x.occurrences(), 0);
        due("1 occurrence(0)", x.occurrence(0), -1);
        due("1 occursAt(0)", x.occursAt(0), 0);
        due("1 nextFrom(0)", x.nextFrom(0), -1);
        due("1 matchedAt(0)", x.matchedAt(0), -1);
        due("1 border(0)", x.border(0), -1);
        due("1 border(1)", x.border(1), -1);
        due("1 period()", x.period(), 0);
        due("1 rank(0)", x.rank(0), -1);
        due("1 disjoint()", x.disjoint(), 0);
        due("1 undo(1)", x.undo(1), -1);
        due("1 undo(0)", x.undo(0), 0);
        due("1 clearPattern()", x.clearPattern(), 0);
        due("1 take(0, 0)", x.take(0, 0), 0);
        due("1 take(0, 1)", x.take(0, 1), -2);
        due("1 echo(64, 1, 0)", x.echo(64, 1, 0), -2);
    }

    private static void promise1ObjectsShareNothing() {
        OrderMatcher x = matcher(list(1, 2), list(3, 4));
        OrderMatcher y = new OrderMatcher();
        due("1 length() of another", y.length(), 0);
        due("1 patternLength() of another", y.patternLength(), 0);
        y.feed(9);
        y.pattern(9);
        textIs("1 after use of another", x, 1, 2);
        ranksAre("1 after use of another", x, 0, 1);
    }

    private static void promise2Pattern() {
        OrderMatcher x = new OrderMatcher();
        for (int i = 1; i <= 10; i++) {
            due("2 pattern as the value " + i, x.pattern(i), i);
        }
        due("2 pattern when full", x.pattern(0), -1);
        due("2 pattern when full again", x.pattern(MAX), -1);
        ranksAre("2 after refusals", x, 0, 1, 2, 3, 4, 5, 6, 7, 8, 9);
        due("2 text is untouched", x.length(), 0);
        x.clearPattern();
        due("2 pattern after clearPattern", x.pattern(7), 1);
    }

    private static void promise3ClearPattern() {
        OrderMatcher x = matcher(list(1, 2, 3), list(5, 6));
        due("3 clearPattern()", x.clearPattern(), 2);
        due("3 patternLength()", x.patternLength(), 0);
        due("3 occurrences()", x.occurrences(), 0);
        textIs("3 text stays", x, 1, 2, 3);
        due("3 clearPattern() of the empty one", x.clearPattern(), 0);
        x.pattern(4);
        ranksAre("3 nothing old is left", x, 0);
        for (int i = 2; i <= 10; i++) {
            x.pattern(i);
        }
        due("3 clearPattern() of a full one", x.clearPattern(), 10);
    }

    private static void promise4Take() {
        OrderMatcher x = matcher(list(8, 3, 5, 5, 1, 9, 2, 7, 4, 6, 0, 3), list(1, 2, 3));
        due("4 take(1, 4)", x.take(1, 4), 4);
        ranksAre("4 take(1, 4)", x, 0, 1, 17, 0);
        occurrencesAre("4 take(1, 4)", x, 1);
        due("4 take(2, 10)", x.take(2, 10), 10);
        ranksAre("4 take(2, 10)", x, 0, 16, 0, 3, 1, 4, 2, 5, 0, 3);
        due("4 take(0, 10)", x.take(0, 10), 10);
        due("4 take(11, 1)", x.take(11, 1), 1);
        ranksAre("4 take(11, 1)", x, 0);
        due("4 take(12, 0)", x.take(12, 0), 0);
        due("4 take of none empties it", x.patternLength(), 0);
        due("4 take(0, 0)", x.take(0, 0), 0);
        due("4 text stays", x.length(), 12);
    }

    private static void promise4TakeRefused() {
        OrderMatcher x = new OrderMatcher();
        x.ramp(1, 1, 12);
        x.pattern(5);
        x.pattern(5);
        due("4 take(0, -1)", x.take(0, -1), -1);
        due("4 take(0, 11)", x.take(0, 11), -1);
        due("4 take(0, MIN)", x.take(0, MIN), -1);
        due("4 take(0, MAX)", x.take(0, MAX), -1);
        due("4 take(-1, 11): count comes first", x.take(-1, 11), -1);
        due("4 take(MAX, -1): count comes first", x.take(MAX, -1), -1);
        due("4 take(-1, 0)", x.take(-1, 0), -2);
        due("4 take(-1, 5)", x.take(-1, 5), -2);
        due("4 take(3, 10)", x.take(3, 10), -2);
        due("4 take(12, 1)", x.take(12, 1), -2);
        due("4 take(13, 0)", x.take(13, 0), -2);
        due("4 take(MAX, 0)", x.take(MAX, 0), -2);
        due("4 take(MAX, 1)", x.take(MAX, 1), -2);
        due("4 take(MAX - 4, 10)", x.take(MAX - 4, 10), -2);
        due("4 take(MIN, 0)", x.take(MIN, 0), -2);
        due("4 take(MIN, 10)", x.take(MIN, 10), -2);
        ranksAre("4 after refusals", x, 0, 16);
        x.undo(10);
        due("4 take(0, 3) beyond what undo left", x.take(0, 3), -2);
    }

    private static void promise4TakeCopies() {
        OrderMatcher x = matcher(list(4, 6, 5), list());
        x.take(0, 3);
        x.undo(3);
        x.ramp(1, 1, 3);
        ranksAre("4 the copy stays when the text changes", x, 0, 1, 1);
        x.pattern(5);
        due("4 the copy has the values themselves", x.rank(3), 17);
        textIs("4 pattern leaves the text", x, 1, 2, 3);
    }

    private static void promise5Feed() {
        OrderMatcher x = new OrderMatcher();
        for (int i = 1; i <= 60; i++) {
            due("5 feed as the value " + i, x.feed(i * 3), i);
        }
        due("5 feed when full", x.feed(1), -1);
        due("5 length() after a refusal", x.length(), 60);
        for (int p = 0; p < 60; p++) {
            due("5 valueAt(" + p + ")", x.valueAt(p), (p + 1) * 3);
        }
        x.undo(1);
        due("5 feed after undo", x.feed(-4), 60);
        due("5 valueAt(59)", x.valueAt(59), -4);
        due("5 pattern is untouched", x.patternLength(), 0);
    }

    private static void promise6Ramp() {
        OrderMatcher x = new OrderMatcher();
        due("6 ramp(7, -2, 3)", x.ramp(7, -2, 3), 3);
        due("6 ramp(5, 0, 2)", x.ramp(5, 0, 2), 5);
        due("6 ramp(9, 9, 1)", x.ramp(9, 9, 1), 6);
        textIs("6 ramps", x, 7, 5, 3, 5, 5, 9);
        x.undo(6);
        due("6 ramp(MAX, 1, 3)", x.ramp(MAX, 1, 3), 3);
        due("6 ramp(MIN, -1, 2)", x.ramp(MIN, -1, 2), 5);
        due("6 ramp(1, MAX, 4)", x.ramp(1, MAX, 4), 9);
        textIs("6 ramps that wrap", x, MAX, MIN, MIN + 1, MIN, MAX, 1, MIN, -1, MAX - 1);
        x.undo(9);
        due("6 ramp(0, 1, 60)", x.ramp(0, 1, 60), 60);
        due("6 valueAt(59)", x.valueAt(59), 59);
        x.undo(25);
        due("6 ramp(0, 1, 25) just fits", x.ramp(0, 1, 25), 60);
    }

    private static void promise6RampRefused() {
        OrderMatcher x = matcher(list(4), list());
        due("6 ramp(0, 0, 0)", x.ramp(0, 0, 0), -1);
        due("6 ramp(0, 0, -1)", x.ramp(0, 0, -1), -1);
        due("6 ramp(0, 0, 61)", x.ramp(0, 0, 61), -1);
        due("6 ramp(0, 0, MIN)", x.ramp(0, 0, MIN), -1);
        due("6 ramp(0, 0, MAX)", x.ramp(0, 0, MAX), -1);
        due("6 ramp(0, 0, 60)", x.ramp(0, 0, 60), -2);
        textIs("6 after refusals", x, 4);
        x.ramp(1, 1, 59);
        due("6 ramp(0, 0, 1) when full", x.ramp(0, 0, 1), -2);
        due("6 ramp(0, 0, 0) when full", x.ramp(0, 0, 0), -1);
        due("6 ramp(0, 0, 61) when full", x.ramp(0, 0, 61), -1);
        due("6 length() after refusals", x.length(), 60);
    }

    private static void promise7Echo() {
        OrderMatcher x = matcher(list(3, -1, 4), list());
        due("7 echo(129, 2, 10)", x.echo(2 * 64 + 1, 2, 10), 5);
        due("7 echo(192, -1, 0)", x.echo(3 * 64, -1, 0), 8);
        due("7 echo(71, 0, 6)", x.echo(64 + 7, 0, 6), 9);
        textIs("7 echoes", x, 3, -1, 4, 8, 18, -3, 1, -4, 6);
        x.undo(9);
        x.feed(MAX);
        x.feed(MIN);
        due("7 echo(128, 2, 0)", x.echo(128, 2, 0), 4);
        due("7 echo(128, 1, 1)", x.echo(128, 1, 1), 6);
        due("7 echo(65, -1, -1)", x.echo(65, -1, -1), 7);
        textIs("7 echoes that wrap", x, MAX, MIN, -2, 0, MIN, MIN + 1, MAX);
        x.undo(7);
        x.ramp(1, 1, 20);
        due("7 echo of all 20", x.echo(20 * 64, 1, 100), 40);
        due("7 echo of the last 20", x.echo(20 * 64 + 20, 1, 100), 60);
        due("7 valueAt(20)", x.valueAt(20), 101);
        due("7 valueAt(40)", x.valueAt(40), 201);
        due("7 valueAt(59)", x.valueAt(59), 220);
        x.undo(1);
        due("7 echo of the last value", x.echo(64 + 58, 3, 0), 60);
        due("7 valueAt(59)", x.valueAt(59), 657);
    }

    private static void promise7EchoRefused() {
        OrderMatcher x = new OrderMatcher();
        x.ramp(1, 1, 45);
        due("7 echo(0, ..)", x.echo(0, 1, 1), -1);
        due("7 echo(63, ..)", x.echo(63, 1, 1), -1);
        due("7 echo(-1, ..)", x.echo(-1, 1, 1), -1);
        due("7 echo(-64, ..)", x.echo(-64, 1, 1), -1);
        due("7 echo(-65, ..)", x.echo(-65, 1, 1), -1);
        due("7 echo(MIN, ..)", x.echo(MIN, 1, 1), -1);
        due("7 echo(MIN + 64, ..)", x.echo(MIN + 64, 1, 1), -1);
        due("7 echo(MAX, ..)", x.echo(MAX, 1, 1), -1);
        due("7 echo of 21", x.echo(21 * 64, 1, 1), -1);
        due("7 echo of 21 from 60", x.echo(21 * 64 + 60, 1, 1), -1);
        due("7 echo of 1 from 45", x.echo(64 + 45, 1, 1), -2);
        due("7 echo of 1 from 63", x.echo(64 + 63, 1, 1), -2);
        due("7 echo of 10 from 36", x.echo(10 * 64 + 36, 1, 1), -2);
        due("7 echo of 16 from 30: place comes before room", x.echo(16 * 64 + 30, 1, 1), -2);
        due("7 echo of 16 from 29", x.echo(16 * 64 + 29, 1, 1), -3);
        due("7 echo of 20 from 0", x.echo(20 * 64, 1, 1), -3);
        due("7 length() after refusals", x.length(), 45);
        due("7 echo of 15 just fits", x.echo(15 * 64 + 30, 1, 1), 60);
        due("7 echo of 1 when full", x.echo(64, 1, 1), -3);
        due("7 echo of 20 from 41 when full", x.echo(20 * 64 + 41, 1, 1), -2);
        x.undo(55);
        due("7 echo beyond what undo left", x.echo(6 * 64, 1, 1), -2);
        textIs("7 after refusals", x, 1, 2, 3, 4, 5);
    }

    private static void promise8Undo() {
        OrderMatcher x = matcher(list(1, 2, 3, 4), list(1, 2));
        due("8 undo(0)", x.undo(0), 4);
        due("8 undo(1)", x.undo(1), 3);
        textIs("8 undo(1)", x, 1, 2, 3);
        due("8 valueAt(3)", x.valueAt(3), 0);
        due("8 undo(4)", x.undo(4), -1);
        due("8 undo(-1)", x.undo(-1), -1);
        due("8 undo(MIN)", x.undo(MIN), -1);
        due("8 undo(MAX)", x.undo(MAX), -1);
        textIs("8 after refusals", x, 1, 2, 3);
        occurrencesAre("8 occurrences follow", x, 0, 1);
        due("8 undo(3)", x.undo(3), 0);
        due("8 undo(1) of nothing", x.undo(1), -1);
        due("8 pattern stays", x.patternLength(), 2);
        due("8 feed(9)", x.feed(9), 1);
        textIs("8 after feed", x, 9);
    }

    private static void promise9Length() {
        OrderMatcher x = new OrderMatcher();
        x.pattern(1);
        due("9 length() without a text", x.length(), 0);
        x.feed(4);
        due("9 length() after feed", x.length(), 1);
        x.ramp(1, 1, 10);
        due("9 length() after ramp", x.length(), 11);
        x.echo(5 * 64, 1, 1);
        due("9 length() after echo", x.length(), 16);
        x.undo(3);
        due("9 length() after undo", x.length(), 13);
        due("9 length() asked again", x.length(), 13);
    }

    private static void promise10PatternLength() {
        OrderMatcher x = new OrderMatcher();
        x.ramp(1, 1, 7);
        due("10 patternLength() without a pattern", x.patternLength(), 0);
        x.pattern(4);
        x.pattern(4);
        due("10 patternLength() after pattern", x.patternLength(), 2);
        x.take(1, 5);
        due("10 patternLength() after take", x.patternLength(), 5);
        x.pattern(0);
        due("10 patternLength() after take and pattern", x.patternLength(), 6);
        x.clearPattern();
        due("10 patternLength() after clearPattern", x.patternLength(), 0);
    }

    private static void promise11ValueAt() {
        OrderMatcher x = matcher(list(MIN, 7, MAX), list());
        due("11 valueAt(0)", x.valueAt(0), MIN);
        due("11 valueAt(1)", x.valueAt(1), 7);
        due("11 valueAt(2)", x.valueAt(2), MAX);
        due("11 valueAt(3)", x.valueAt(3), 0);
        due("11 valueAt(-1)", x.valueAt(-1), 0);
        due("11 valueAt(59)", x.valueAt(59), 0);
        due("11 valueAt(60)", x.valueAt(60), 0);
        due("11 valueAt(MIN)", x.valueAt(MIN), 0);
        due("11 valueAt(MAX)", x.valueAt(MAX), 0);
        x.undo(1);
        due("11 valueAt(2) after undo", x.valueAt(2), 0);
    }

    private static void promise12Occurrences() {
        int[] text = list(5, 5, 2, 8, 8, 1);
        occurrencesAre("12 empty pattern", matcher(text, list()));
        occurrencesAre("12 one value is everywhere", matcher(text, list(-9)), 0, 1, 2, 3, 4, 5);
        occurrencesAre("12 same and less", matcher(text, list(4, 4, 3)), 0, 3);
        occurrencesAre("12 the whole text", matcher(text, list(3, 3, 2, 4, 4, 1)), 0);
        occurrencesAre("12 longer than the text", matcher(text, list(3, 3, 2, 4, 4, 1, 5)));
        occurrencesAre("12 empty text", matcher(list(), list(1)));
        OrderMatcher x = new OrderMatcher();
        x.ramp(0, 1, 60);
        x.take(50, 10);
        due("12 ten in sixty", x.occurrences(), 51);
        due("12 the last of them", x.occurrence(50), 50);
        x.clearPattern();
        x.pattern(0);
        due("12 one in sixty", x.occurrences(), 60);
    }

    private static void promise12ShapeOfEveryPair() {
        // Neighbours alone go alike here; only places further apart tell the lists apart.
        occurrencesAre("12 far places differ", matcher(list(1, 3, 2), list(2, 3, 1)));
        occurrencesAre("12 far places the same in one", matcher(list(1, 3, 1), list(1, 3, 2)));
        occurrencesAre("12 far places the same in the other", matcher(list(1, 3, 2), list(1, 3, 1)));
        occurrencesAre("12 first and last of ten",
            matcher(list(5, 1, 9, 2, 8, 3, 7, 4, 6, 5), list(5, 1, 10, 2, 9, 3, 8, 4, 7, 6)));
        occurrencesAre("12 ties at neighbours", matcher(list(1, 1, 2), list(1, 2)), 1);
        occurrencesAre("12 less is not greater", matcher(list(2, 1, 2), list(2, 1)), 0);
    }

    private static void promise12ExtremeValues() {
        int[] text = list(MIN, MAX, MIN, 0, MAX, -1, MIN);
        occurrencesAre("12 rising over the whole range", matcher(text, list(MIN, MAX)), 0, 2, 3);
        occurrencesAre("12 rising by little", matcher(text, list(1, 2)), 0, 2, 3);
        occurrencesAre("12 falling over the whole range", matcher(text, list(MAX, MIN)), 1, 4, 5);
        occurrencesAre("12 up and back", matcher(text, list(0, 1, 0)), 0);
    }

    private static void promise13Occurrence() {
        OrderMatcher x = matcher(list(1, 2, 1, 2, 3), list(0, 1));
        due("13 occurrence(0)", x.occurrence(0), 0);
        due("13 occurrence(1)", x.occurrence(1), 2);
        due("13 occurrence(2)", x.occurrence(2), 3);
        due("13 occurrence(3)", x.occurrence(3), -1);
        due("13 occurrence(-1)", x.occurrence(-1), -1);
        due("13 occurrence(MIN)", x.occurrence(MIN), -1);
        due("13 occurrence(MAX)", x.occurrence(MAX), -1);
        x.clearPattern();
        due("13 occurrence(0) of the empty pattern", x.occurrence(0), -1);
    }

    private static void promise14OccursAt() {
        OrderMatcher x = matcher(list(1, 2, 1, 2, 3), list(0, 1));
        due("14 occursAt(0)", x.occursAt(0), 1);
        due("14 occursAt(1)", x.occursAt(1), 0);
        due("14 occursAt(2)", x.occursAt(2), 1);
        due("14 occursAt(3)", x.occursAt(3), 1);
        due("14 occursAt(4)", x.occursAt(4), 0);
        due("14 occursAt(5)", x.occursAt(5), 0);
        due("14 occursAt(-1)", x.occursAt(-1), 0);
        due("14 occursAt(60)", x.occursAt(60), 0);
        due("14 occursAt(MIN)", x.occursAt(MIN), 0);
        due("14 occursAt(MAX)", x.occursAt(MAX), 0);
        x.undo(1);
        due("14 occursAt(3) after undo", x.occursAt(3), 0);
        x.clearPattern();
        due("14 occursAt(0) of the empty pattern", x.occursAt(0), 0);
    }

    private static void promise15NextFrom() {
        OrderMatcher x = matcher(list(3, 4, 2, 1, 5, 0), list(0, 1));
        due("15 nextFrom(MIN)", x.nextFrom(MIN), 0);
        due("15 nextFrom(-1)", x.nextFrom(-1), 0);
        due("15 nextFrom(0)", x.nextFrom(0), 0);
        due("15 nextFrom(1)", x.nextFrom(1), 3);
        due("15 nextFrom(3)", x.nextFrom(3), 3);
        due("15 nextFrom(4)", x.nextFrom(4), -1);
        due("15 nextFrom(6)", x.nextFrom(6), -1);
        due("15 nextFrom(MAX)", x.nextFrom(MAX), -1);
        x.clearPattern();
        due("15 nextFrom(0) of the empty pattern", x.nextFrom(0), -1);
    }

    private static void promise16MatchedAt() {
        OrderMatcher x = matcher(list(5, 6, 4, 7, 5, 5, 9), list(1, 3, 2, 4));
        int[] matched = {1, 2, 1, 2, 3, 1, 2};
        for (int p = 0; p < matched.length; p++) {
            due("16 matchedAt(" + p + ")", x.matchedAt(p), matched[p]);
        }
        due("16 matchedAt(7)", x.matchedAt(7), -1);
        due("16 matchedAt(-1)", x.matchedAt(-1), -1);
        due("16 matchedAt(60)", x.matchedAt(60), -1);
        due("16 matchedAt(MIN)", x.matchedAt(MIN), -1);
        due("16 matchedAt(MAX)", x.matchedAt(MAX), -1);
        x.clearPattern();
        due("16 matchedAt(0) of the empty pattern", x.matchedAt(0), 0);
        due("16 matchedAt(7) of the empty pattern", x.matchedAt(7), -1);
        OrderMatcher y = new OrderMatcher();
        y.ramp(0, 1, 60);
        y.take(0, 10);
        due("16 the text's start limits it", y.matchedAt(8), 9);
        due("16 the whole pattern at the start", y.matchedAt(9), 10);
        due("16 the pattern's length limits it", y.matchedAt(59), 10);
    }

    private static void promise17Border() {
        OrderMatcher x = matcher(list(), list(1, 3, 2, 4, 3, 5, 4, 4));
        int[] borders = {0, 1, 1, 2, 3, 4, 5, 1};
        for (int k = 1; k <= borders.length; k++) {
            due("17 border(" + k + ")", x.border(k), borders[k - 1]);
        }
        due("17 border(0)", x.border(0), -1);
        due("17 border(9)", x.border(9), -1);
        due("17 border(-1)", x.border(-1), -1);
        due("17 border(MIN)", x.border(MIN), -1);
        due("17 border(MAX)", x.border(MAX), -1);
        x.clearPattern();
        due("17 border(1) of the empty pattern", x.border(1), -1);
        for (int i = 0; i < 10; i++) {
            x.pattern(MAX - i);
        }
        due("17 border(10) when all falls", x.border(10), 9);
        due("17 border(11)", x.border(11), -1);
    }

    private static void promise18Period() {
        due("18 empty", matcher(list(1), list()).period(), 0);
        due("18 one value", matcher(list(), list(4)).period(), 1);
        due("18 two values", matcher(list(), list(4, 3)).period(), 1);
        due("18 rise and fall", matcher(list(), list(1, 2, 1)).period(), 2);
        due("18 two by two", matcher(list(), list(1, 3, 2, 4, 3, 5)).period(), 2);
        due("18 three by three", matcher(list(), list(1, 1, 2, 1, 1, 2, 1)).period(), 3);
        due("18 only the last value", matcher(list(), list(1, 2, 3, 3)).period(), 3);
        due("18 ten the same", matcher(list(), list(6, 6, 6, 6, 6, 6, 6, 6, 6, 6)).period(), 1);
        due("18 ten with a late turn", matcher(list(), list(1, 2, 3, 4, 5, 6, 7, 8, 9, 9)).period(), 9);
    }

    private static void promise19Rank() {
        ranksAre("19 ties and order", matcher(list(), list(5, 2, 5, 7, 2, 5)), 0, 0, 17, 3, 16, 34);
        ranksAre("19 ten the same", matcher(list(), list(6, 6, 6, 6, 6, 6, 6, 6, 6, 6)),
            0, 16, 32, 48, 64, 80, 96, 112, 128, 144);
        ranksAre("19 extreme values", matcher(list(), list(MAX, MIN, 0, MAX, MIN)), 0, 0, 1, 18, 16);
        OrderMatcher x = matcher(list(1, 2, 3), list(1, 2));
        due("19 rank(-1)", x.rank(-1), -1);
        due("19 rank(2)", x.rank(2), -1);
        due("19 rank(10)", x.rank(10), -1);
        due("19 rank(MIN)", x.rank(MIN), -1);
        due("19 rank(MAX)", x.rank(MAX), -1);
        x.clearPattern();
        due("19 rank(0) of the empty pattern", x.rank(0), -1);
    }

    private static void promise20Disjoint() {
        due("20 empty pattern", matcher(list(1, 2), list()).disjoint(), 0);
        due("20 empty text", matcher(list(), list(1)).disjoint(), 0);
        due("20 single values", matcher(list(1, 2, 2), list(7)).disjoint(), 3);
        due("20 no occurrence", matcher(list(1, 2, 3), list(2, 1)).disjoint(), 0);
        due("20 one shared position is too many", matcher(list(1, 2, 1, 2, 1), list(1, 2, 1)).disjoint(), 1);
        due("20 touching is not sharing", matcher(list(1, 2, 1, 1, 2, 1), list(1, 2, 1)).disjoint(), 2);
        due("20 all rising", matcher(list(1, 2, 3, 4, 5, 6, 7), list(1, 2)).disjoint(), 3);
        OrderMatcher x = new OrderMatcher();
        x.ramp(0, 1, 60);
        x.take(0, 10);
        due("20 six tens", x.disjoint(), 6);
        x.undo(1);
        due("20 five tens in 59", x.disjoint(), 5);
    }
}
