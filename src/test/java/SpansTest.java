/** Promises 11 to 16 and 19: what was measured from, at or within times. */
public final class SpansTest {
    private static final int BAD_ARG = SeriesCodec.BAD_ARG;
    private static final int NONE = SeriesCodec.NONE;
    private static final int MIN = Integer.MIN_VALUE;
    private static final int MAX = Integer.MAX_VALUE;

    private static final Check check = new Check();

    public static void main(String[] args) {
        emptyRow();
        firstFromTimes();
        valueAtTimes();
        spansOfPoints();
        spansAtTheEnds();
        greatestSums();
        noSpans();
        afterPointsWent();
        check.finish();
    }

    // Points at 10, 20, 20, 20 and 50.
    private static SeriesCodec row() {
        SeriesCodec x = new SeriesCodec();
        x.append(10, 500);
        x.append(10, 300);
        x.append(0, 900);
        x.append(0, 300);
        x.append(30, 0);
        return x;
    }

    private static void span(SeriesCodec x, int from, int to, int count, int sum, int greatest, int least) {
        String span = "(" + from + ", " + to + ")";
        check.due("count" + span, x.count(from, to), count);
        check.due("sum" + span, x.sum(from, to), sum);
        check.due("greatest" + span, x.greatest(from, to), greatest);
        check.due("least" + span, x.least(from, to), least);
    }

    private static void emptyRow() {
        SeriesCodec x = new SeriesCodec();
        span(x, 0, 60000, 0, 0, NONE, NONE);
        span(x, 0, 0, 0, 0, NONE, NONE);
        check.due("firstFrom of none", x.firstFrom(0), NONE);
        check.due("firstFrom of none, negative", x.firstFrom(MIN), NONE);
        check.due("valueAt of none", x.valueAt(60000), NONE);
        check.due("valueAt of none, beyond", x.valueAt(MAX), NONE);
        check.due("valueAt of none, at 0", x.valueAt(0), NONE);
    }

    private static void firstFromTimes() {
        SeriesCodec x = row();
        int[][] due = {
            {MIN, 0}, {-1, 0}, {0, 0}, {10, 0}, {11, 1}, {20, 1}, {21, 4}, {50, 4},
            {51, NONE}, {60000, NONE}, {60001, NONE}, {MAX, NONE},
        };
        for (int[] d : due) {
            check.due("firstFrom(" + d[0] + ")", x.firstFrom(d[0]), d[1]);
        }
    }

    private static void valueAtTimes() {
        SeriesCodec x = row();
        int[][] due = {
            {MIN, NONE}, {-1, NONE}, {0, NONE}, {9, NONE}, {10, 500}, {19, 500},
            {20, 300}, {49, 300}, {50, 0}, {51, 0}, {60000, 0}, {60001, 0}, {MAX, 0},
        };
        for (int[] d : due) {
            check.due("valueAt(" + d[0] + ")", x.valueAt(d[0]), d[1]);
        }
        // Of several points at one time the last one counts.
        SeriesCodec y = new SeriesCodec();
        y.append(0, 1);
        y.append(0, 65535);
        check.due("valueAt the last of two", y.valueAt(0), 65535);
    }

    private static void spansOfPoints() {
        SeriesCodec x = row();
        span(x, 0, 60000, 5, 2000, 900, 0);
        span(x, 10, 50, 5, 2000, 900, 0);
        span(x, 11, 49, 3, 1500, 900, 300);
        span(x, 10, 19, 1, 500, 500, 500);
        span(x, 20, 20, 3, 1500, 900, 300);
        span(x, 21, 49, 0, 0, NONE, NONE);
        span(x, 50, 50, 1, 0, 0, 0);
        span(x, 0, 9, 0, 0, NONE, NONE);
        span(x, 51, 60000, 0, 0, NONE, NONE);
        span(x, 10, 20, 4, 2000, 900, 300);
    }

    private static void spansAtTheEnds() {
        SeriesCodec x = new SeriesCodec();
        x.append(0, 65535);
        x.append(60000, 1);
        span(x, 0, 0, 1, 65535, 65535, 65535);
        span(x, 60000, 60000, 1, 1, 1, 1);
        span(x, 1, 59999, 0, 0, NONE, NONE);
        span(x, 0, 60000, 2, 65536, 65535, 1);
    }

    private static void greatestSums() {
        SeriesCodec x = new SeriesCodec();
        x.steady(64, 1, 65535, 0);
        span(x, 0, 60000, 64, 64 * 65535, 65535, 65535);
        span(x, 2, 63, 62, 62 * 65535, 65535, 65535);
        SeriesCodec y = new SeriesCodec();
        y.steady(64, 10, 1000, -1);
        span(y, 10, 640, 64, 64 * 1000 - 63 * 32, 1000, 937);
        span(y, 11, 639, 62, 62 * 1000 - 63 * 32 + 63, 999, 938);
    }

    // A call with no span answers BAD_ARG, whether or not a point would be in it.
    private static void noSpans() {
        int[][] none = {
            {5, 4}, {60000, 0}, {60000, 59999}, {-1, 5}, {-1, -1}, {0, -1}, {0, 60001},
            {60001, 60001}, {-1, 60001}, {MIN, MAX}, {MAX, MIN}, {MIN, MIN}, {MAX, MAX},
            {20, 19}, {0, MAX}, {MIN, 60000},
        };
        for (int[] s : none) {
            span(new SeriesCodec(), s[0], s[1], BAD_ARG, BAD_ARG, BAD_ARG, BAD_ARG);
            span(row(), s[0], s[1], BAD_ARG, BAD_ARG, BAD_ARG, BAD_ARG);
        }
    }

    private static void afterPointsWent() {
        SeriesCodec x = new SeriesCodec();
        x.steady(18, 100, 1, 1);
        x.unappend();
        span(x, 0, 60000, 17, 153, 17, 1);
        check.due("firstFrom behind the last", x.firstFrom(1701), NONE);
        check.due("valueAt behind the last", x.valueAt(60000), 17);
        x.dropOldest();
        span(x, 0, 60000, 1, 17, 17, 17);
        span(x, 0, 1699, 0, 0, NONE, NONE);
        check.due("firstFrom", x.firstFrom(0), 0);
        check.due("valueAt before the first", x.valueAt(1699), NONE);
    }
}
