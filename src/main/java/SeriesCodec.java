public final class SeriesCodec {
    public static final int BAD_ARG = -1;
    public static final int FULL = -2;
    public static final int NONE = -4;

    private static final int MAX_POINTS = 64;
    private static final int CHUNK_POINTS = 16;
    private static final int MAX_TIME = 60000;
    private static final int MAX_VALUE = 65535;
    private static final int VALUE_DIGITS = 16;
    private static final int FIRST_POINT_SIZE = 32;

    // No value but 0 has so many zeros on a side, so nothing fits this window.
    private static final int NO_WINDOW = 16;

    private final int[] times = new int[MAX_POINTS];
    private final int[] values = new int[MAX_POINTS];
    private int held;

    public SeriesCodec() {
        held = 0;
    }

    public int append(int gap, int value) {
        if (!isTime(gap)) {
            return BAD_ARG;
        }
        if (lastTime() + gap > MAX_TIME) {
            return BAD_ARG;
        }
        if (!isValue(value)) {
            return BAD_ARG;
        }
        if (held >= MAX_POINTS) {
            return FULL;
        }
        put(gap, value);
        return held - 1;
    }

    public int steady(int many, int gap, int value, int step) {
        if (many < 0 || many > MAX_POINTS || !isTime(gap)) {
            return BAD_ARG;
        }
        // Both factors are in range by now, so the product can't overflow.
        if (lastTime() + many * gap > MAX_TIME) {
            return BAD_ARG;
        }
        if (!isValue(value) || step < -MAX_VALUE || step > MAX_VALUE) {
            return BAD_ARG;
        }
        if (held + many > MAX_POINTS) {
            return FULL;
        }
        int next = value;
        for (int k = 0; k < many; k++) {
            put(gap, next);
            // The mask is the remainder modulo 65536 for negative sums too.
            next = (next + step) & MAX_VALUE;
        }
        return held;
    }

    public int dropOldest() {
        if (held < CHUNK_POINTS) {
            return NONE;
        }
        for (int i = CHUNK_POINTS; i < held; i++) {
            times[i - CHUNK_POINTS] = times[i];
            values[i - CHUNK_POINTS] = values[i];
        }
        held -= CHUNK_POINTS;
        return held;
    }

    public int unappend() {
        if (held == 0) {
            return NONE;
        }
        held--;
        return values[held];
    }

    public int points() {
        return held;
    }

    public int time(int i) {
        return isPoint(i) ? times[i] : NONE;
    }

    public int value(int i) {
        return isPoint(i) ? values[i] : NONE;
    }

    public int size(int c) {
        if (c < 0 || c >= chunks()) {
            return NONE;
        }
        return chunkSize(c);
    }

    public int packed() {
        int total = 0;
        int end = chunks();
        for (int c = 0; c < end; c++) {
            total += chunkSize(c);
        }
        return total;
    }

    public int firstFrom(int t) {
        for (int i = 0; i < held; i++) {
            if (times[i] >= t) {
                return i;
            }
        }
        return NONE;
    }

    public int count(int from, int to) {
        if (!isSpan(from, to)) {
            return BAD_ARG;
        }
        int found = 0;
        for (int i = 0; i < held; i++) {
            if (isIn(i, from, to)) {
                found++;
            }
        }
        return found;
    }

    public int sum(int from, int to) {
        if (!isSpan(from, to)) {
            return BAD_ARG;
        }
        int total = 0;
        for (int i = 0; i < held; i++) {
            if (isIn(i, from, to)) {
                total += values[i];
            }
        }
        return total;
    }

    public int greatest(int from, int to) {
        if (!isSpan(from, to)) {
            return BAD_ARG;
        }
        int best = NONE;
        for (int i = 0; i < held; i++) {
            if (isIn(i, from, to) && (best == NONE || values[i] > best)) {
                best = values[i];
            }
        }
        return best;
    }

    public int least(int from, int to) {
        if (!isSpan(from, to)) {
            return BAD_ARG;
        }
        int best = NONE;
        for (int i = 0; i < held; i++) {
            if (isIn(i, from, to) && (best == NONE || values[i] < best)) {
                best = values[i];
            }
        }
        return best;
    }

    public int valueAt(int t) {
        for (int i = held - 1; i >= 0; i--) {
            if (times[i] <= t) {
                return values[i];
            }
        }
        return NONE;
    }

    public int rises() {
        int found = 0;
        for (int i = 1; i < held; i++) {
            if (values[i] > values[i - 1]) {
                found++;
            }
        }
        return found;
    }

    public int widestGap() {
        if (held < 2) {
            return NONE;
        }
        int widest = 0;
        for (int i = 1; i < held; i++) {
            int gap = times[i] - times[i - 1];
            if (gap > widest) {
                widest = gap;
            }
        }
        return widest;
    }

    private boolean isTime(int t) {
        return t >= 0 && t <= MAX_TIME;
    }

    private boolean isValue(int v) {
        return v >= 0 && v <= MAX_VALUE;
    }

    private boolean isSpan(int from, int to) {
        return from >= 0 && from <= to && to <= MAX_TIME;
    }

    private boolean isPoint(int i) {
        return i >= 0 && i < held;
    }

    private boolean isIn(int i, int from, int to) {
        return times[i] >= from && times[i] <= to;
    }

    // 0 without a point, since the first point's gap is its time.
    private int lastTime() {
        return held == 0 ? 0 : times[held - 1];
    }

    private void put(int gap, int value) {
        times[held] = lastTime() + gap;
        values[held] = value;
        held++;
    }

    private int chunks() {
        return (held + CHUNK_POINTS - 1) / CHUNK_POINTS;
    }

    private int chunkEnd(int c) {
        int end = (c + 1) * CHUNK_POINTS;
        return end < held ? end : held;
    }

    // Sizes are worked out anew each time: unappend would otherwise have to
    // bring back the window that stood before the point it takes away.
    private int chunkSize(int c) {
        int end = chunkEnd(c);
        int total = FIRST_POINT_SIZE;
        int gapBefore = 0;
        int windowLead = NO_WINDOW;
        int windowTrail = NO_WINDOW;
        for (int i = c * CHUNK_POINTS + 1; i < end; i++) {
            int gap = times[i] - times[i - 1];
            total += timeSize(gap - gapBefore);
            gapBefore = gap;
            int changed = values[i] ^ values[i - 1];
            if (changed == 0) {
                total += 1;
                continue;
            }
            int lead = leadingZeros(changed);
            int trail = trailingZeros(changed);
            if (lead >= windowLead && trail >= windowTrail) {
                total += 2 + VALUE_DIGITS - windowLead - windowTrail;
            } else {
                total += 2 + 4 + 4 + VALUE_DIGITS - lead - trail;
                windowLead = lead;
                windowTrail = trail;
            }
        }
        return total;
    }

    private int timeSize(int d) {
        if (d == 0) {
            return 1;
        }
        if (d >= -7 && d <= 8) {
            return 6;
        }
        if (d >= -63 && d <= 64) {
            return 10;
        }
        return 21;
    }

    private int leadingZeros(int x) {
        int zeros = 0;
        while (zeros < VALUE_DIGITS && ((x >> (VALUE_DIGITS - 1 - zeros)) & 1) == 0) {
            zeros++;
        }
        return zeros;
    }

    private int trailingZeros(int x) {
        int zeros = 0;
        while (zeros < VALUE_DIGITS && ((x >> zeros) & 1) == 0) {
            zeros++;
        }
        return zeros;
    }
}
