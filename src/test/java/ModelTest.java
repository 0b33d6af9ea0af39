import java.util.ArrayList;
import java.util.List;

/**
 * Long mixed runs against a second, differently built model: shapes are compared by dense ranks
 * and the disjoint occurrences are counted by trying both ways at every position. After each
 * change, refused or not, every question is asked of some place, so a change too many shows up.
 */
public final class ModelTest {
    private static final int RUNS = 300;
    private static final int CALLS_MOST = 512;
    private static final int[] EXTREMES = {
        Integer.MIN_VALUE, Integer.MIN_VALUE + 1, -1, 0, 1, Integer.MAX_VALUE - 1, Integer.MAX_VALUE
    };

    private final List<Integer> text = new ArrayList<>();
    private final List<Integer> pattern = new ArrayList<>();
    private final OrderMatcher matcher = new OrderMatcher();
    private final StringBuilder story = new StringBuilder();
    private final int spread;
    private long state;
    private int calls = 0;
    private boolean wrong = false;

    private ModelTest(int run) {
        state = run * 7919L + 17;
        spread = 2 + run % 7;
    }

    public static void main(String[] args) {
        int wrongRuns = 0;
        for (int run = 0; run < RUNS; run++) {
            ModelTest test = new ModelTest(run);
            test.play();
            if (test.wrong) {
                wrongRuns++;
                if (wrongRuns <= 5) {
                    System.out.println("run " + run + ":\n" + test.story);
                }
            }
        }
        System.out.println(wrongRuns == 0 ? "all answers are as due" : wrongRuns + " runs have wrong answers");
        if (wrongRuns != 0) {
            System.exit(1);
        }
    }

    private void play() {
        while (!wrong && calls < CALLS_MOST) {
            change();
            for (int i = 0; i < 6; i++) {
                ask();
            }
        }
    }

    /** A fixed sequence of numbers, the same in every run of the test. */
    private int below(int bound) {
        state = state * 6364136223846793005L + 1442695040888963407L;
        return (int) ((state >>> 33) % bound);
    }

    private int anyValue() {
        return below(12) == 0 ? EXTREMES[below(EXTREMES.length)] : below(spread);
    }

    /** Mostly from -1 to one above the bound, now and then far outside. */
    private int near(int bound) {
        return below(20) == 0 ? EXTREMES[below(EXTREMES.length)] : below(bound + 3) - 1;
    }

    private void due(String call, int got, int want) {
        if (wrong || calls >= CALLS_MOST) {
            return;
        }
        calls++;
        story.append("  ").append(call).append(" -> ").append(got).append('\n');
        if (got != want) {
            wrong = true;
            story.append("  due is ").append(want).append('\n');
        }
    }

    private void change() {
        switch (below(12)) {
            case 0, 1 -> {
                int value = anyValue();
                due("pattern(" + value + ")", matcher.pattern(value), modelPattern(value));
            }
            case 2 -> {
                if (below(4) == 0) {
                    due("clearPattern()", matcher.clearPattern(), modelClearPattern());
                }
            }
            case 3, 4 -> {
                int first = near(text.size());
                int count = below(3) == 0 ? near(10) : below(5);
                due("take(" + first + ", " + count + ")", matcher.take(first, count), modelTake(first, count));
            }
            case 5, 6, 7 -> {
                int value = anyValue();
                due("feed(" + value + ")", matcher.feed(value), modelFeed(value));
            }
            case 8 -> {
                int start = anyValue();
                int step = below(4) == 0 ? anyValue() : below(3) - 1;
                int count = below(6) == 0 ? near(60) : below(8);
                due("ramp(" + start + ", " + step + ", " + count + ")",
                    matcher.ramp(start, step, count), modelRamp(start, step, count));
            }
            case 9, 10 -> {
                int shape = below(15) == 0 ? anyValue() : 64 * below(below(4) == 0 ? 23 : 7) + below(text.size() + 2);
                int scale = below(4) == 0 ? anyValue() : below(5) - 2;
                int shift = anyValue();
                due("echo(" + shape + ", " + scale + ", " + shift + ")",
                    matcher.echo(shape, scale, shift), modelEcho(shape, scale, shift));
            }
            default -> {
                int count = below(5) == 0 ? near(text.size()) : below(6);
                due("undo(" + count + ")", matcher.undo(count), modelUndo(count));
            }
        }
    }

    private void ask() {
        int p = near(text.size());
        int i = near(pattern.size());
        List<Integer> found = modelOccurrences();
        int nth = near(found.size());
        switch (below(12)) {
            case 0 -> due("length()", matcher.length(), text.size());
            case 1 -> due("patternLength()", matcher.patternLength(), pattern.size());
            case 2 -> due("valueAt(" + p + ")", matcher.valueAt(p), isPlace(p, text) ? text.get(p) : 0);
            case 3 -> due("occurrences()", matcher.occurrences(), found.size());
            case 4 -> due("occurrence(" + nth + ")", matcher.occurrence(nth), isPlace(nth, found) ? found.get(nth) : -1);
            case 5 -> due("occursAt(" + p + ")", matcher.occursAt(p), found.contains(p) ? 1 : 0);
            case 6 -> due("nextFrom(" + p + ")", matcher.nextFrom(p),
                found.stream().filter(at -> at >= p).findFirst().orElse(-1));
            case 7 -> due("matchedAt(" + p + ")", matcher.matchedAt(p), modelMatchedAt(p));
            case 8 -> due("border(" + i + ")", matcher.border(i), modelBorder(i));
            case 9 -> due("period()", matcher.period(), modelPeriod());
            case 10 -> due("rank(" + i + ")", matcher.rank(i), modelRank(i));
            default -> due("disjoint()", matcher.disjoint(), modelDisjoint(found));
        }
    }

    private static boolean isPlace(int i, List<Integer> list) {
        return 0 <= i && i < list.size();
    }

    private int modelPattern(int value) {
        if (pattern.size() == 10) {
            return -1;
        }
        pattern.add(value);
        return pattern.size();
    }

    private int modelClearPattern() {
        int had = pattern.size();
        pattern.clear();
        return had;
    }

    private int modelTake(int first, int count) {
        if (count < 0 || count > 10) {
            return -1;
        }
        if (first < 0 || (long) first + count > text.size()) {
            return -2;
        }
        pattern.clear();
        pattern.addAll(text.subList(first, first + count));
        return count;
    }

    private int modelFeed(int value) {
        if (text.size() == 60) {
            return -1;
        }
        text.add(value);
        return text.size();
    }

    private int modelRamp(int start, int step, int count) {
        if (count < 1 || count > 60) {
            return -1;
        }
        if (text.size() + count > 60) {
            return -2;
        }
        int value = start;
        for (int i = 0; i < count; i++) {
            text.add(value);
            value += step;
        }
        return text.size();
    }

    private int modelEcho(int shape, int scale, int shift) {
        int count = shape < 0 ? -1 : shape >> 6;
        int first = shape & 63;
        if (count < 1 || count > 20) {
            return -1;
        }
        if (first + count > text.size()) {
            return -2;
        }
        if (text.size() + count > 60) {
            return -3;
        }
        for (int value : new ArrayList<>(text.subList(first, first + count))) {
            text.add((int) ((long) value * scale + shift));
        }
        return text.size();
    }

    private int modelUndo(int count) {
        if (count < 0 || count > text.size()) {
            return -1;
        }
        text.subList(text.size() - count, text.size()).clear();
        return text.size();
    }

    /** Two lists have the same shape just if the dense ranks of their values are the same. */
    private static List<Long> denseRanks(List<Integer> list) {
        return list.stream()
            .map(value -> list.stream().filter(other -> other < value).distinct().count())
            .toList();
    }

    private static boolean sameShape(List<Integer> one, List<Integer> other) {
        return denseRanks(one).equals(denseRanks(other));
    }

    private List<Integer> modelOccurrences() {
        List<Integer> found = new ArrayList<>();
        for (int p = 0; p + pattern.size() <= text.size() && !pattern.isEmpty(); p++) {
            if (sameShape(pattern, text.subList(p, p + pattern.size()))) {
                found.add(p);
            }
        }
        return found;
    }

    private int modelMatchedAt(int p) {
        if (!isPlace(p, text)) {
            return -1;
        }
        int greatest = 0;
        for (int k = 1; k <= pattern.size() && k <= p + 1; k++) {
            if (sameShape(pattern.subList(0, k), text.subList(p + 1 - k, p + 1))) {
                greatest = k;
            }
        }
        return greatest;
    }

    private int modelBorder(int k) {
        if (k < 1 || k > pattern.size()) {
            return -1;
        }
        int greatest = 0;
        for (int b = 0; b < k; b++) {
            if (sameShape(pattern.subList(0, b), pattern.subList(k - b, k))) {
                greatest = b;
            }
        }
        return greatest;
    }

    private int modelPeriod() {
        int m = pattern.size();
        for (int s = 1; s <= m; s++) {
            if (sameShape(pattern.subList(s, m), pattern.subList(0, m - s))) {
                return s;
            }
        }
        return 0;
    }

    private int modelRank(int i) {
        if (!isPlace(i, pattern)) {
            return -1;
        }
        int value = pattern.get(i);
        List<Integer> before = pattern.subList(0, i);
        long less = before.stream().filter(other -> other < value).count();
        long same = before.stream().filter(other -> other == value).count();
        return (int) (less + 16 * same);
    }

    private int modelDisjoint(List<Integer> found) {
        int[] best = new int[text.size() + 1];
        for (int end = 1; end <= text.size(); end++) {
            int start = end - pattern.size();
            int with = found.contains(start) ? best[start] + 1 : 0;
            best[end] = Math.max(best[end - 1], with);
        }
        return best[text.size()];
    }
}
