/** Finding where a text of numbers goes up and down just as a pattern does. */
public final class OrderMatcher {
    private static final int TEXT_MOST = 60;
    private static final int PATTERN_MOST = 10;
    private static final int ECHO_MOST = 20;
    private static final int ECHO_COUNT_UNIT = 64;
    private static final int RANK_SAME_UNIT = 16;

    private final int[] textValues = new int[TEXT_MOST];
    private final int[] patternValues = new int[PATTERN_MOST];
    private int textCount;
    private int patternCount;

    public OrderMatcher() {
        textCount = 0;
        patternCount = 0;
    }

    public int pattern(int value) {
        if (patternCount >= PATTERN_MOST) {
            return -1;
        }
        patternValues[patternCount] = value;
        patternCount++;
        return patternCount;
    }

    public int clearPattern() {
        int had = patternCount;
        patternCount = 0;
        return had;
    }

    public int take(int first, int count) {
        if (count < 0 || count > PATTERN_MOST) {
            return -1;
        }
        if (!liesInText(first, count)) {
            return -2;
        }
        for (int i = 0; i < count; i++) {
            patternValues[i] = textValues[first + i];
        }
        patternCount = count;
        return count;
    }

    public int feed(int value) {
        if (!hasRoomFor(1)) {
            return -1;
        }
        append(value);
        return textCount;
    }

    public int ramp(int start, int step, int count) {
        if (count < 1 || count > TEXT_MOST) {
            return -1;
        }
        if (!hasRoomFor(count)) {
            return -2;
        }
        for (int i = 0; i < count; i++) {
            append(start + i * step);
        }
        return textCount;
    }

    public int echo(int shape, int scale, int shift) {
        // A negative shape gives a count of 0 or less, so the first test refuses it too.
        int count = shape / ECHO_COUNT_UNIT;
        int first = shape % ECHO_COUNT_UNIT;
        if (count < 1 || count > ECHO_MOST) {
            return -1;
        }
        if (!liesInText(first, count)) {
            return -2;
        }
        if (!hasRoomFor(count)) {
            return -3;
        }
        for (int i = 0; i < count; i++) {
            append(textValues[first + i] * scale + shift);
        }
        return textCount;
    }

    public int undo(int count) {
        if (count < 0 || count > textCount) {
            return -1;
        }
        textCount -= count;
        return textCount;
    }

    public int length() {
        return textCount;
    }

    public int patternLength() {
        return patternCount;
    }

    public int valueAt(int p) {
        return isTextPlace(p) ? textValues[p] : 0;
    }

    public int occurrences() {
        int found = 0;
        for (int p = 0; p < textCount; p++) {
            if (matchStartsAt(p)) {
                found++;
            }
        }
        return found;
    }

    public int occurrence(int i) {
        int before = 0;
        for (int p = 0; p < textCount; p++) {
            if (matchStartsAt(p)) {
                if (before == i) {
                    return p;
                }
                before++;
            }
        }
        return -1;
    }

    public int occursAt(int p) {
        return matchStartsAt(p) ? 1 : 0;
    }

    public int nextFrom(int from) {
        for (int p = 0; p < textCount; p++) {
            if (p >= from && matchStartsAt(p)) {
                return p;
            }
        }
        return -1;
    }

    public int matchedAt(int p) {
        if (!isTextPlace(p)) {
            return -1;
        }
        int end = p + 1;
        int most = end < patternCount ? end : patternCount;
        for (int k = most; k > 0; k--) {
            if (sameShape(patternValues, 0, textValues, end - k, k)) {
                return k;
            }
        }
        return 0;
    }

    public int border(int k) {
        if (k < 1 || k > patternCount) {
            return -1;
        }
        return greatestBorder(k);
    }

    public int period() {
        if (patternCount == 0) {
            return 0;
        }
        // What is left from place s on is a border, so the least s leaves the greatest one.
        return patternCount - greatestBorder(patternCount);
    }

    public int rank(int i) {
        if (i < 0 || i >= patternCount) {
            return -1;
        }
        int less = 0;
        int same = 0;
        for (int j = 0; j < i; j++) {
            if (patternValues[j] < patternValues[i]) {
                less++;
            } else if (patternValues[j] == patternValues[i]) {
                same++;
            }
        }
        return less + RANK_SAME_UNIT * same;
    }

    public int disjoint() {
        // All occurrences are equally long, so taking the earliest one that is free is never worse.
        int taken = 0;
        int free = 0;
        for (int p = 0; p < textCount; p++) {
            if (p >= free && matchStartsAt(p)) {
                taken++;
                free = p + patternCount;
            }
        }
        return taken;
    }

    private boolean isTextPlace(int p) {
        return p >= 0 && p < textCount;
    }

    /** Subtracts the small count rather than adding it to first, which may be any int and would wrap. */
    private boolean liesInText(int first, int count) {
        return first >= 0 && first <= textCount - count;
    }

    private boolean hasRoomFor(int count) {
        return count <= TEXT_MOST - textCount;
    }

    /** Only for callers that have asked hasRoomFor: it does not look again. */
    private void append(int value) {
        textValues[textCount] = value;
        textCount++;
    }

    private boolean matchStartsAt(int p) {
        return patternCount > 0
            && liesInText(p, patternCount)
            && sameShape(patternValues, 0, textValues, p, patternCount);
    }

    private int greatestBorder(int k) {
        for (int b = k - 1; b > 0; b--) {
            if (sameShape(patternValues, 0, patternValues, k - b, b)) {
                return b;
            }
        }
        return 0;
    }

    private static boolean sameShape(int[] one, int oneFirst, int[] other, int otherFirst, int count) {
        for (int i = 1; i < count; i++) {
            int a = one[oneFirst + i];
            int b = other[otherFirst + i];
            for (int j = 0; j < i; j++) {
                if (!sameComparison(one[oneFirst + j], a, other[otherFirst + j], b)) {
                    return false;
                }
            }
        }
        return true;
    }

    /** Compares without subtracting, since a difference of ints may wrap. */
    private static boolean sameComparison(int a, int b, int c, int d) {
        return (a < b) == (c < d) && (a == b) == (c == d);
    }
}
