/** Promises 1 to 8: the points, how they come and go, and their times and values. */
public final class PointsTest {
    private static final int BAD_ARG = SeriesCodec.BAD_ARG;
    private static final int FULL = SeriesCodec.FULL;
    private static final int NONE = SeriesCodec.NONE;
    private static final int MIN = Integer.MIN_VALUE;
    private static final int MAX = Integer.MAX_VALUE;

    private static final Check check = new Check();

    public static void main(String[] args) {
        newObject();
        appendNumbersAndTimes();
        appendRefusals();
        appendOrder();
        steadyPoints();
        steadyOfNone();
        steadyRefusals();
        steadyOrder();
        dropOldestEdges();
        dropOldestKeepsTheRest();
        unappendEdges();
        timeAndValueOutside();
        objectsAreApart();
        check.finish();
    }

    private static SeriesCodec with(int many, int gap, int value, int step) {
        SeriesCodec x = new SeriesCodec();
        check.due("steady to begin with", x.steady(many, gap, value, step), many);
        return x;
    }

    // A refused call changes nothing: the same row of points stands behind it.
    private static void unchanged(String call, SeriesCodec x, int many, int gap, int value, int step) {
        check.due("points after " + call, x.points(), many);
        for (int i = 0; i < many; i++) {
            check.due("time " + i + " after " + call, x.time(i), gap * (i + 1));
            check.due("value " + i + " after " + call, x.value(i), (value + i * step) & 65535);
        }
        check.due("time behind the last after " + call, x.time(many), NONE);
    }

    private static void newObject() {
        SeriesCodec x = new SeriesCodec();
        check.due("new points", x.points(), 0);
        check.due("new time(0)", x.time(0), NONE);
        check.due("new value(0)", x.value(0), NONE);
        check.due("new size(0)", x.size(0), NONE);
        check.due("new packed", x.packed(), 0);
        check.due("new unappend", x.unappend(), NONE);
        check.due("new dropOldest", x.dropOldest(), NONE);
        check.due("new points after refusals", x.points(), 0);
    }

    private static void appendNumbersAndTimes() {
        SeriesCodec x = new SeriesCodec();
        check.due("first append", x.append(7, 65535), 0);
        check.due("append at the same time", x.append(0, 0), 1);
        check.due("append to the last time", x.append(59993, 300), 2);
        check.due("time 0", x.time(0), 7);
        check.due("time 1", x.time(1), 7);
        check.due("time 2", x.time(2), 60000);
        check.due("value 0", x.value(0), 65535);
        check.due("value 1", x.value(1), 0);
        check.due("value 2", x.value(2), 300);
        check.due("points", x.points(), 3);

        SeriesCodec y = new SeriesCodec();
        for (int i = 0; i < 64; i++) {
            check.due("append " + i, y.append(i, 1000 + i), i);
        }
        check.due("append to a full row", y.append(0, 0), FULL);
        check.due("points when full", y.points(), 64);
        check.due("time 63", y.time(63), 63 * 64 / 2);
        check.due("value 63", y.value(63), 1063);
    }

    private static void appendRefusals() {
        SeriesCodec x = with(3, 10000, 5, 1);
        int[] badGaps = {-1, 60001, 30001, MIN, MAX, MAX - 29999};
        for (int gap : badGaps) {
            check.due("append gap " + gap, x.append(gap, 1), BAD_ARG);
        }
        int[] badValues = {-1, 65536, MIN, MAX};
        for (int value : badValues) {
            check.due("append value " + value, x.append(1, value), BAD_ARG);
        }
        unchanged("refused append", x, 3, 10000, 5, 1);
        check.due("append up to 60000", x.append(30000, 65535), 3);
        check.due("append beyond 60000", x.append(1, 0), BAD_ARG);
        check.due("append at 60000", x.append(0, 0), 4);

        SeriesCodec y = new SeriesCodec();
        check.due("first append beyond", y.append(60001, 0), BAD_ARG);
        check.due("first append at the end", y.append(60000, 0), 0);
        check.due("its time", y.time(0), 60000);
    }

    private static void appendOrder() {
        SeriesCodec x = with(64, 900, 0, 0);
        check.due("full, bad gap", x.append(-1, 0), BAD_ARG);
        check.due("full, large gap", x.append(60001, 0), BAD_ARG);
        check.due("full, time above", x.append(2401, 0), BAD_ARG);
        check.due("full, bad value", x.append(0, 65536), BAD_ARG);
        check.due("full, negative value", x.append(0, -1), BAD_ARG);
        check.due("full", x.append(2400, 65535), FULL);
        unchanged("append when full", x, 64, 900, 0, 0);
    }

    private static void steadyPoints() {
        unchanged("steady", with(5, 12000, 10, 3), 5, 12000, 10, 3);
        unchanged("steady over the top", with(4, 1, 65534, 1), 4, 1, 65534, 1);
        unchanged("steady below 0", with(4, 0, 1, -1), 4, 0, 1, -1);
        unchanged("steady, greatest step", with(64, 0, 65535, 65535), 64, 0, 65535, 65535);
        unchanged("steady, least step", with(64, 937, 0, -65535), 64, 937, 0, -65535);

        SeriesCodec x = new SeriesCodec();
        check.due("append before", x.append(100, 9), 0);
        check.due("steady behind", x.steady(2, 50, 20, -15), 3);
        check.due("time 1", x.time(1), 150);
        check.due("time 2", x.time(2), 200);
        check.due("value 1", x.value(1), 20);
        check.due("value 2", x.value(2), 5);
        check.due("append behind", x.append(1, 2), 3);
        check.due("time 3", x.time(3), 201);
        check.due("steady to full", x.steady(60, 0, 0, 0), 64);
        check.due("one too many", x.steady(1, 0, 0, 0), FULL);
    }

    private static void steadyOfNone() {
        SeriesCodec x = new SeriesCodec();
        check.due("steady of none", x.steady(0, 60000, 65535, 65535), 0);
        check.due("append", x.append(60000, 1), 0);
        check.due("steady of none at the end", x.steady(0, 60000, 0, -65535), 1);
        check.due("steady of none, bad gap", x.steady(0, 60001, 0, 0), BAD_ARG);
        check.due("steady of none, bad value", x.steady(0, 0, -1, 0), BAD_ARG);
        check.due("steady of none, bad step", x.steady(0, 0, 0, 65536), BAD_ARG);
        check.due("steady to full", x.steady(63, 0, 0, 0), 64);
        check.due("steady of none when full", x.steady(0, 0, 0, 0), 64);
    }

    private static void steadyRefusals() {
        SeriesCodec x = with(3, 10000, 5, 1);
        int[][] bad = {
            {-1, 0, 0, 0}, {65, 0, 0, 0}, {MIN, 0, 0, 0}, {MAX, 0, 0, 0},
            {1, -1, 0, 0}, {1, 60001, 0, 0}, {1, MIN, 0, 0}, {1, MAX, 0, 0}, {64, 67108864, 0, 0},
            {1, 30001, 0, 0}, {2, 15001, 0, 0}, {61, 492, 0, 0}, {3, 60000, 0, 0},
            {1, 0, -1, 0}, {1, 0, 65536, 0}, {1, 0, MIN, 0}, {1, 0, MAX, 0},
            {1, 0, 0, -65536}, {1, 0, 0, 65536}, {1, 0, 0, MIN}, {1, 0, 0, MAX},
        };
        for (int[] a : bad) {
            String call = "steady(" + a[0] + ", " + a[1] + ", " + a[2] + ", " + a[3] + ")";
            check.due(call, x.steady(a[0], a[1], a[2], a[3]), BAD_ARG);
        }
        check.due("steady, one too many", x.steady(62, 0, 0, 0), FULL);
        unchanged("refused steady", x, 3, 10000, 5, 1);
        check.due("steady up to 60000", x.steady(2, 15000, 0, 0), 5);
        check.due("its last time", x.time(4), 60000);
    }

    private static void steadyOrder() {
        SeriesCodec x = with(60, 900, 0, 0);
        check.due("too many, bad gap", x.steady(5, -1, 0, 0), BAD_ARG);
        check.due("too many, the last time above", x.steady(5, 1201, 0, 0), BAD_ARG);
        check.due("too many, bad value", x.steady(5, 0, 65536, 0), BAD_ARG);
        check.due("too many, bad step", x.steady(5, 0, 0, -65536), BAD_ARG);
        check.due("too many, times fit", x.steady(5, 1200, 0, 0), FULL);
        unchanged("steady of too many", x, 60, 900, 0, 0);
    }

    private static void dropOldestEdges() {
        SeriesCodec x = with(15, 10, 1, 1);
        check.due("dropOldest of 15", x.dropOldest(), NONE);
        unchanged("dropOldest of 15", x, 15, 10, 1, 1);
        check.due("the sixteenth", x.append(10, 16), 15);
        check.due("dropOldest of 16", x.dropOldest(), 0);
        check.due("points", x.points(), 0);
        check.due("time 0", x.time(0), NONE);
        check.due("value 0", x.value(0), NONE);
        check.due("size 0", x.size(0), NONE);
        check.due("unappend", x.unappend(), NONE);
        check.due("a first point again", x.append(3, 4), 0);
        check.due("its time is its gap", x.time(0), 3);
    }

    private static void dropOldestKeepsTheRest() {
        SeriesCodec x = with(64, 900, 100, 7);
        int[] sizes = new int[4];
        for (int c = 0; c < 4; c++) {
            sizes[c] = x.size(c);
        }
        for (int gone = 1; gone <= 4; gone++) {
            int left = 64 - 16 * gone;
            check.due("dropOldest", x.dropOldest(), left);
            check.due("points left", x.points(), left);
            for (int i = 0; i < left; i++) {
                check.due("time " + i, x.time(i), 900 * (i + 16 * gone + 1));
                check.due("value " + i, x.value(i), 100 + 7 * (i + 16 * gone));
            }
            check.due("time behind", x.time(left), NONE);
            check.due("value behind", x.value(left), NONE);
            for (int c = 0; c < 4; c++) {
                check.due("size " + c, x.size(c), c + gone < 4 ? sizes[c + gone] : NONE);
            }
        }
        check.due("dropOldest of none", x.dropOldest(), NONE);

        SeriesCodec y = with(17, 100, 0, 1);
        check.due("dropOldest of 17", y.dropOldest(), 1);
        check.due("append behind", y.append(5, 5), 1);
        check.due("time from the last point", y.time(1), 1705);
        check.due("room again", y.steady(62, 0, 0, 0), 64);
    }

    private static void unappendEdges() {
        SeriesCodec x = new SeriesCodec();
        check.due("unappend of none", x.unappend(), NONE);
        x.append(40000, 65535);
        x.append(20000, 0);
        check.due("unappend", x.unappend(), 0);
        check.due("points", x.points(), 1);
        check.due("time behind", x.time(1), NONE);
        check.due("append from the point left", x.append(20000, 8), 1);
        check.due("its time", x.time(1), 60000);
        check.due("unappend", x.unappend(), 8);
        check.due("unappend of the first", x.unappend(), 65535);
        check.due("unappend of none again", x.unappend(), NONE);
        check.due("first point again", x.append(60000, 2), 0);
        check.due("its time", x.time(0), 60000);

        SeriesCodec y = with(64, 1, 0, 1);
        for (int i = 63; i >= 0; i--) {
            check.due("unappend " + i, y.unappend(), i);
            check.due("points", y.points(), i);
        }
    }

    private static void timeAndValueOutside() {
        SeriesCodec x = with(64, 1, 9, 0);
        int[] outside = {-1, 64, 65, MIN, MAX};
        for (int i : outside) {
            check.due("time " + i, x.time(i), NONE);
            check.due("value " + i, x.value(i), NONE);
        }
        SeriesCodec y = with(2, 5, 9, 1);
        check.due("time 1", y.time(1), 10);
        check.due("value 1", y.value(1), 10);
        check.due("time 2", y.time(2), NONE);
        check.due("value 2", y.value(2), NONE);
    }

    private static void objectsAreApart() {
        SeriesCodec x = with(3, 1, 1, 1);
        SeriesCodec y = with(2, 7, 40, 2);
        unchanged("making another object", x, 3, 1, 1, 1);
        unchanged("asking another object", y, 2, 7, 40, 2);
    }
}
