/** Promises 6 to 19, sentence by sentence: each bound that they name, on both sides. */
public final class AskingTest {
    private static final int BAD_ARG = SeriesCodec.BAD_ARG;
    private static final int NONE = SeriesCodec.NONE;
    private static final int MIN = Integer.MIN_VALUE;
    private static final int MAX = Integer.MAX_VALUE;

    // No spans: from above to, from too small, to too large, and all of it together.
    private static final int[][] NO_SPANS = {
        {1, 0}, {100, 99}, {60000, 59999}, {60000, 0}, {-1, 0}, {-1, 60000}, {-1, -1}, {0, 60001},
        {60000, 60001}, {60001, 60001}, {0, -1}, {60001, 60000}, {MIN, MAX}, {MAX, MIN}, {MIN, 0}, {0, MAX},
    };

    private static final Check check = new Check();

    public static void main(String[] args) {
        check.run(
            AskingTest::pointsFrom0To64,
            AskingTest::timeOfNone,
            AskingTest::valueOfNone,
            AskingTest::sizeOfNone,
            AskingTest::packedOfNoneAndOfAll,
            AskingTest::firstFromAtLeast,
            AskingTest::firstFromNone,
            AskingTest::firstFromTakesTheFirst,
            AskingTest::countInSpan,
            AskingTest::countNoSpan,
            AskingTest::sumInSpan,
            AskingTest::sumNoSpan,
            AskingTest::greatestInSpan,
            AskingTest::greatestNone,
            AskingTest::greatestNoSpan,
            AskingTest::leastInSpan,
            AskingTest::leastNone,
            AskingTest::leastNoSpan,
            AskingTest::valueAtAtMost,
            AskingTest::valueAtNone,
            AskingTest::valueAtTakesTheLast,
            AskingTest::risesGreaterOnly,
            AskingTest::risesWithoutTheFirst,
            AskingTest::risesOverChunks,
            AskingTest::widestGapOfFewerThanTwo,
            AskingTest::widestGapOfTwo,
            AskingTest::widestGapOverAll,
            AskingTest::noSpanBeforeNone);
        check.finish();
    }

    private static void pointsFrom0To64() {
        check.sentence("Promise 6: the number of points");
        for (Rows.Row row : Rows.ALL) {
            check.due("points, " + row.name(), row.make().get().points(), row.points());
        }
        for (int n = 0; n <= 64; n++) {
            check.due("points of " + n, Rows.steady(n, 1, 1, 1).points(), n);
        }
    }

    private static void timeOfNone() {
        check.sentence("Promise 7: the time of point i; NONE if there is none");
        for (Rows.Row row : Rows.ALL) {
            int n = row.points();
            for (int i : new int[] {MIN, -64, -1, n, n + 1, 64, 65, MAX}) {
                check.refused("time(" + i + "), " + row.name(), row.make(), x -> x.time(i), NONE);
            }
        }
        for (int n = 1; n <= 64; n++) {
            SeriesCodec x = Rows.steady(n, 900, 5, 5);
            check.due("time of the first of " + n, x.time(0), 900);
            check.due("time of the last of " + n, x.time(n - 1), 900 * n);
            check.due("time behind " + n, x.time(n), NONE);
        }
    }

    private static void valueOfNone() {
        check.sentence("Promise 8: the value of point i; NONE if there is none");
        for (Rows.Row row : Rows.ALL) {
            int n = row.points();
            for (int i : new int[] {MIN, -64, -1, n, n + 1, 64, 65, MAX}) {
                check.refused("value(" + i + "), " + row.name(), row.make(), x -> x.value(i), NONE);
            }
        }
        for (int n = 1; n <= 64; n++) {
            SeriesCodec x = Rows.steady(n, 900, 0, 5);
            check.due("value of the first of " + n, x.value(0), 0);
            check.due("value of the last of " + n, x.value(n - 1), 5 * (n - 1));
            check.due("value behind " + n, x.value(n), NONE);
        }
    }

    private static void sizeOfNone() {
        check.sentence("Promise 9: the size of chunk c; NONE if it has no point");
        for (int n : new int[] {0, 1, 15, 16, 17, 31, 32, 33, 47, 48, 49, 63, 64}) {
            int chunks = (n + 15) / 16;
            // The last of them are 0 or a small number when taken times 16.
            for (int c : new int[] {-1, chunks, chunks + 1, 4, MIN, MAX, 1 << 28, (1 << 28) + 1, -(1 << 28)}) {
                check.refused("size(" + c + ") of " + n, () -> Rows.steady(n, 1, 1, 0), x -> x.size(c), NONE);
            }
            if (n > 0) {
                int first = Math.min(n, 16);
                int last = n - 16 * (chunks - 1);
                SeriesCodec x = Rows.steady(n, 0, 1, 0);
                check.due("size of the first chunk of " + n, x.size(0), 30 + 2 * first);
                check.due("size of the last chunk of " + n, x.size(chunks - 1), 30 + 2 * last);
            }
        }
    }

    private static void packedOfNoneAndOfAll() {
        check.sentence("Promise 10: the sum of the sizes of all chunks");
        for (Rows.Row row : Rows.ALL.subList(0, 3)) {
            check.changesNothing("packed, " + row.name(), row.make(), SeriesCodec::packed, 0);
        }
        int total = 0;
        for (int n = 1; n <= 64; n++) {
            total += n % 16 == 1 ? 32 : 2;
            check.due("packed of " + n, Rows.steady(n, 0, 1, 0).packed(), total);
        }
        for (Rows.Row row : Rows.ALL) {
            SeriesCodec x = row.make().get();
            int sum = 0;
            for (int c = 0; 16 * c < row.points(); c++) {
                sum += x.size(c);
            }
            check.due("packed, " + row.name(), x.packed(), sum);
        }
    }

    private static void firstFromAtLeast() {
        check.sentence("Promise 11: the first point with a time of at least t");
        SeriesCodec x = Rows.of(10, 5, 10, 5, 20, 5);
        int[][] due = {{MIN, 0}, {-1, 0}, {0, 0}, {9, 0}, {10, 0}, {11, 1}, {19, 1}, {20, 1}, {21, 2}, {40, 2}};
        for (int[] d : due) {
            check.due("firstFrom(" + d[0] + ")", x.firstFrom(d[0]), d[1]);
        }
        check.due("at 0", Rows.one(0, 5).firstFrom(0), 0);
        check.due("at 60000", Rows.one(60000, 5).firstFrom(60000), 0);
        check.due("the 64th", Rows.steady(64, 900, 1, 1).firstFrom(57600), 63);
    }

    private static void firstFromNone() {
        check.sentence("Promise 11: NONE if there is none");
        for (Rows.Row row : Rows.ALL) {
            for (int t : new int[] {60001, MAX}) {
                check.refused("firstFrom(" + t + "), " + row.name(), row.make(), x -> x.firstFrom(t), NONE);
            }
        }
        for (Rows.Row row : Rows.ALL.subList(0, 3)) {
            for (int t : new int[] {MIN, -1, 0, 800, 60000}) {
                check.refused("firstFrom(" + t + "), " + row.name(), row.make(), x -> x.firstFrom(t), NONE);
            }
        }
        check.due("at the last", Rows.steady(64, 900, 1, 1).firstFrom(57600), 63);
        check.refused("behind the last", () -> Rows.steady(64, 900, 1, 1), x -> x.firstFrom(57601), NONE);
    }

    private static void firstFromTakesTheFirst() {
        check.sentence("Promise 11: the first of several at one time");
        SeriesCodec x = Rows.of(10, 1, 5, 2, 0, 3, 0, 4, 5, 5);
        check.due("firstFrom(15)", x.firstFrom(15), 1);
        check.due("firstFrom(11)", x.firstFrom(11), 1);
        check.due("firstFrom(16)", x.firstFrom(16), 4);
        check.due("64 at one time", Rows.steady(64, 0, 1, 1).firstFrom(0), 0);
    }

    // Values 7, 0, 65535, 9 and 7 at 0, 100, 100, 101 and 60000.
    private static SeriesCodec row() {
        return Rows.of(0, 7, 100, 0, 0, 65535, 1, 9, 59899, 7);
    }

    private static SeriesCodec allGreatest() {
        return Rows.steady(64, 10, 65535, 0);
    }

    private static void countInSpan() {
        check.sentence("Promise 12: how many points are in the span");
        check.due("all", row().count(0, 60000), 5);
        check.due("both ends out", row().count(1, 59999), 3);
        check.due("one time", row().count(100, 100), 2);
        check.due("from - 1", row().count(99, 100), 2);
        check.due("from + 1", row().count(101, 101), 1);
        check.due("none between", row().count(1, 99), 0);
        check.due("none behind", row().count(102, 59999), 0);
        check.due("64", allGreatest().count(10, 640), 64);
        check.due("63 of 64", allGreatest().count(11, 640), 63);
        check.due("62 of 64", allGreatest().count(11, 639), 62);
        check.changesNothing("no point", SeriesCodec::new, x -> x.count(0, 60000), 0);
    }

    private static void countNoSpan() {
        check.sentence("Promise 12: BAD_ARG if it is none");
        for (int[] s : NO_SPANS) {
            for (Rows.Row row : Rows.ALL) {
                check.refused("count(" + s[0] + ", " + s[1] + "), " + row.name(), row.make(),
                    x -> x.count(s[0], s[1]), BAD_ARG);
            }
        }
    }

    private static void sumInSpan() {
        check.sentence("Promise 13: the sum of the values of the points in the span");
        check.due("all", row().sum(0, 60000), 7 + 65535 + 9 + 7);
        check.due("both ends out", row().sum(1, 59999), 65535 + 9);
        check.due("one time", row().sum(100, 100), 65535);
        check.due("from + 1", row().sum(101, 60000), 16);
        check.due("to - 1", row().sum(0, 99), 7);
        check.due("none between", row().sum(1, 99), 0);
        check.due("64 greatest", allGreatest().sum(0, 60000), 4194240);
        check.due("63 greatest", allGreatest().sum(0, 639), 4128705);
        check.changesNothing("no point", SeriesCodec::new, x -> x.sum(0, 60000), 0);
    }

    private static void sumNoSpan() {
        check.sentence("Promise 13: BAD_ARG if it is none");
        for (int[] s : NO_SPANS) {
            for (Rows.Row row : Rows.ALL) {
                check.refused("sum(" + s[0] + ", " + s[1] + "), " + row.name(), row.make(),
                    x -> x.sum(s[0], s[1]), BAD_ARG);
            }
        }
    }

    private static void greatestInSpan() {
        check.sentence("Promise 14: the greatest value of a point in the span");
        check.due("all", row().greatest(0, 60000), 65535);
        check.due("from 100", row().greatest(100, 100), 65535);
        check.due("from 101", row().greatest(101, 60000), 9);
        check.due("from 102", row().greatest(102, 60000), 7);
        check.due("to 99", row().greatest(0, 99), 7);
        check.due("0 alone", Rows.steady(3, 5, 0, 0).greatest(5, 15), 0);
        check.due("the first", Rows.of(5, 9, 5, 8, 5, 7).greatest(5, 15), 9);
        check.due("the last", Rows.of(5, 7, 5, 8, 5, 9).greatest(5, 15), 9);
        check.due("the 64th", Rows.steady(64, 5, 1, 1).greatest(0, 60000), 64);
    }

    private static void greatestNone() {
        check.sentence("Promise 14: NONE if none is in it");
        check.due("one in it", row().greatest(101, 101), 9);
        check.due("0 in it", Rows.one(5, 0).greatest(5, 5), 0);
        check.refused("none in it", AskingTest::row, x -> x.greatest(102, 59999), NONE);
        check.refused("none between", AskingTest::row, x -> x.greatest(1, 99), NONE);
        for (Rows.Row row : Rows.ALL.subList(0, 3)) {
            check.refused("greatest, " + row.name(), row.make(), x -> x.greatest(0, 60000), NONE);
        }
    }

    private static void greatestNoSpan() {
        check.sentence("Promise 14: BAD_ARG if it is none");
        for (int[] s : NO_SPANS) {
            for (Rows.Row row : Rows.ALL) {
                check.refused("greatest(" + s[0] + ", " + s[1] + "), " + row.name(), row.make(),
                    x -> x.greatest(s[0], s[1]), BAD_ARG);
            }
        }
    }

    private static void leastInSpan() {
        check.sentence("Promise 15: the least value of a point in the span");
        check.due("all", row().least(0, 60000), 0);
        check.due("from 100", row().least(100, 100), 0);
        check.due("from 101", row().least(101, 60000), 7);
        check.due("to 59999", row().least(101, 59999), 9);
        check.due("to 99", row().least(0, 99), 7);
        check.due("65535 alone", allGreatest().least(10, 640), 65535);
        check.due("the first", Rows.of(5, 7, 5, 8, 5, 9).least(5, 15), 7);
        check.due("the last", Rows.of(5, 9, 5, 8, 5, 7).least(5, 15), 7);
        check.due("the 64th", Rows.steady(64, 5, 64, -1).least(0, 60000), 1);
    }

    private static void leastNone() {
        check.sentence("Promise 15: NONE if none is in it");
        check.due("one in it", row().least(101, 101), 9);
        check.due("65535 in it", Rows.one(5, 65535).least(5, 5), 65535);
        check.refused("none in it", AskingTest::row, x -> x.least(102, 59999), NONE);
        check.refused("none between", AskingTest::row, x -> x.least(1, 99), NONE);
        for (Rows.Row row : Rows.ALL.subList(0, 3)) {
            check.refused("least, " + row.name(), row.make(), x -> x.least(0, 60000), NONE);
        }
    }

    private static void leastNoSpan() {
        check.sentence("Promise 15: BAD_ARG if it is none");
        for (int[] s : NO_SPANS) {
            for (Rows.Row row : Rows.ALL) {
                check.refused("least(" + s[0] + ", " + s[1] + "), " + row.name(), row.make(),
                    x -> x.least(s[0], s[1]), BAD_ARG);
            }
        }
    }

    private static void valueAtAtMost() {
        check.sentence("Promise 16: the value of the last point with a time of at most t");
        SeriesCodec x = Rows.of(10, 5, 10, 0, 20, 65535);
        int[][] due = {
            {9, NONE}, {10, 5}, {11, 5}, {19, 5}, {20, 0}, {39, 0}, {40, 65535}, {41, 65535},
            {60000, 65535}, {60001, 65535}, {MAX, 65535},
        };
        for (int[] d : due) {
            check.due("valueAt(" + d[0] + ")", x.valueAt(d[0]), d[1]);
        }
        check.due("at 0", Rows.one(0, 5).valueAt(0), 5);
        check.due("at 60000", Rows.one(60000, 5).valueAt(60000), 5);
        check.due("before 60000", Rows.one(60000, 5).valueAt(59999), NONE);
    }

    private static void valueAtNone() {
        check.sentence("Promise 16: NONE if there is none");
        for (Rows.Row row : Rows.ALL) {
            for (int t : new int[] {MIN, -1}) {
                check.refused("valueAt(" + t + "), " + row.name(), row.make(), x -> x.valueAt(t), NONE);
            }
        }
        for (Rows.Row row : Rows.ALL.subList(0, 3)) {
            for (int t : new int[] {0, 800, 60000, 60001, MAX}) {
                check.refused("valueAt(" + t + "), " + row.name(), row.make(), x -> x.valueAt(t), NONE);
            }
        }
        check.due("at the first", Rows.steady(64, 900, 3, 1).valueAt(900), 3);
        check.refused("before the first", () -> Rows.steady(64, 900, 3, 1), x -> x.valueAt(899), NONE);
    }

    private static void valueAtTakesTheLast() {
        check.sentence("Promise 16: the last of several at one time");
        SeriesCodec x = Rows.of(10, 1, 5, 2, 0, 3, 0, 4, 5, 5);
        check.due("valueAt(14)", x.valueAt(14), 1);
        check.due("valueAt(15)", x.valueAt(15), 4);
        check.due("valueAt(19)", x.valueAt(19), 4);
        check.due("valueAt(20)", x.valueAt(20), 5);
        check.due("64 at one time", Rows.steady(64, 0, 1, 1).valueAt(0), 64);
    }

    private static void risesGreaterOnly() {
        check.sentence("Promise 17: a value greater than that of the point before");
        check.due("greater by 1", Rows.of(1, 8, 1, 9).rises(), 1);
        check.due("the same", Rows.of(1, 8, 1, 8).rises(), 0);
        check.due("less by 1", Rows.of(1, 8, 1, 7).rises(), 0);
        check.due("0 to 65535", Rows.of(1, 0, 1, 65535).rises(), 1);
        check.due("65535 to 0", Rows.of(1, 65535, 1, 0).rises(), 0);
        check.due("65535 again", Rows.of(1, 65535, 1, 65535).rises(), 0);
        check.due("a step over 65535", Rows.steady(4, 1, 65534, 1).rises(), 2);
        check.due("a step below 0", Rows.steady(4, 1, 1, -1).rises(), 1);
    }

    private static void risesWithoutTheFirst() {
        check.sentence("Promise 17: the first one does not count");
        for (Rows.Row row : Rows.ALL.subList(0, 3)) {
            check.changesNothing("rises, " + row.name(), row.make(), SeriesCodec::rises, 0);
        }
        check.due("one point of 0", Rows.one(5, 0).rises(), 0);
        check.due("one point of 65535", Rows.one(5, 65535).rises(), 0);
        // A greater value than that of a point that was dropped is no rise either.
        SeriesCodec x = Rows.steady(17, 1, 0, 1);
        check.due("17 that rise", x.rises(), 16);
        x.dropOldest();
        check.due("the one that is left", x.rises(), 0);
    }

    private static void risesOverChunks() {
        check.sentence("Promise 17: how many points, over all chunks");
        for (int n = 1; n <= 64; n++) {
            check.due("rises of " + n, Rows.steady(n, 1, 0, 1).rises(), n - 1);
            check.due("rises of " + n + " that fall", Rows.steady(n, 1, 64, -1).rises(), 0);
        }
    }

    private static void widestGapOfFewerThanTwo() {
        check.sentence("Promise 18: NONE if there are fewer than two points");
        for (Rows.Row row : Rows.ALL) {
            if (row.points() < 2) {
                check.refused("widestGap, " + row.name(), row.make(), SeriesCodec::widestGap, NONE);
            }
        }
        SeriesCodec x = Rows.of(5, 1, 7, 1);
        check.due("two points", x.widestGap(), 7);
        x.unappend();
        check.due("one point left", x.widestGap(), NONE);
        SeriesCodec y = Rows.steady(18, 5, 1, 1);
        y.dropOldest();
        check.due("two points left", y.widestGap(), 5);
        SeriesCodec z = Rows.steady(17, 5, 1, 1);
        z.dropOldest();
        check.due("one point left of 17", z.widestGap(), NONE);
    }

    private static void widestGapOfTwo() {
        check.sentence("Promise 18: the time between a point and the next one");
        check.due("no time", Rows.of(500, 1, 0, 1).widestGap(), 0);
        check.due("1", Rows.of(500, 1, 1, 1).widestGap(), 1);
        check.due("60000", Rows.of(0, 1, 60000, 1).widestGap(), 60000);
        // The first point's time is no time between two points.
        check.due("59999 before the first", Rows.of(59999, 1, 1, 1).widestGap(), 1);
    }

    private static void widestGapOverAll() {
        check.sentence("Promise 18: the longest");
        check.due("the first", Rows.of(0, 1, 9, 1, 8, 1, 7, 1).widestGap(), 9);
        check.due("the middle one", Rows.of(0, 1, 8, 1, 9, 1, 7, 1).widestGap(), 9);
        check.due("the last", Rows.of(0, 1, 7, 1, 8, 1, 9, 1).widestGap(), 9);
        for (int place = 1; place <= 63; place++) {
            SeriesCodec x = Rows.steady(place, 5, 1, 0);
            x.append(6, 1);
            x.steady(63 - place, 5, 1, 0);
            check.due("before point " + place + " of 64", x.widestGap(), 6);
        }
        SeriesCodec y = Rows.steady(16, 5, 1, 0);
        y.steady(3, 4, 1, 0);
        check.due("in the first chunk", y.widestGap(), 5);
        y.dropOldest();
        check.due("without it", y.widestGap(), 4);
    }

    private static void noSpanBeforeNone() {
        check.sentence("Promise 19: that it is no span (BAD_ARG) is tested before NONE");
        // Each span beside a pair that is none, on rows without a point in either.
        int[][] spanAndNone = {{0, 0, -1, 0}, {60000, 60000, 60000, 60001}, {300, 300, 301, 300}, {0, 60000, -1, 60001}};
        for (int[] s : spanAndNone) {
            for (Rows.Row row : Rows.ALL.subList(0, 3)) {
                String on = " at " + s[0] + ", " + row.name();
                check.refused("greatest of a span" + on, row.make(), x -> x.greatest(s[0], s[1]), NONE);
                check.refused("greatest of none" + on, row.make(), x -> x.greatest(s[2], s[3]), BAD_ARG);
                check.refused("least of a span" + on, row.make(), x -> x.least(s[0], s[1]), NONE);
                check.refused("least of none" + on, row.make(), x -> x.least(s[2], s[3]), BAD_ARG);
            }
        }
        check.refused("greatest of a span between", AskingTest::row, x -> x.greatest(300, 300), NONE);
        check.refused("greatest of none between", AskingTest::row, x -> x.greatest(301, 300), BAD_ARG);
        check.refused("least of a span between", AskingTest::row, x -> x.least(300, 300), NONE);
        check.refused("least of none between", AskingTest::row, x -> x.least(301, 300), BAD_ARG);
    }
}
