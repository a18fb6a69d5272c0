import java.util.List;

/** "Terms", sentence by sentence: each bound that it names, on both sides. */
public final class TermsTest {
    private static final int BAD_ARG = SeriesCodec.BAD_ARG;
    private static final int FULL = SeriesCodec.FULL;
    private static final int NONE = SeriesCodec.NONE;

    private static final Check check = new Check();

    public static void main(String[] args) {
        check.run(
            TermsTest::atMost64Points,
            TermsTest::numberedInOrder,
            TermsTest::timesFrom0To60000,
            TermsTest::valuesFrom0To65535,
            TermsTest::timesNeverFall,
            TermsTest::chunksOfSixteen,
            TermsTest::sizeIsTheSumOfItsPoints,
            TermsTest::firstPointHasSize32,
            TermsTest::gapBeforeTheSecondPointIs0,
            TermsTest::gapBeforeTheOthersIsTaken,
            TermsTest::timeSize1,
            TermsTest::timeSize6,
            TermsTest::timeSize10,
            TermsTest::timeSize21,
            TermsTest::valueSize1,
            TermsTest::zerosOfTheChange,
            TermsTest::noWindowAtTheBegin,
            TermsTest::windowThatFits,
            TermsTest::windowForEveryPair,
            TermsTest::windowBecomes,
            TermsTest::windowPastEqualValues,
            TermsTest::spanFromAtMostTo,
            TermsTest::spanFrom0To60000,
            TermsTest::inSpanBothEnds,
            TermsTest::codes);
        check.finish();
    }

    private static void atMost64Points() {
        check.sentence("Terms: at most 64 points");
        SeriesCodec x = Rows.steady(63, 1, 0, 1);
        check.due("points", x.points(), 63);
        check.due("append of the 64th", x.append(1, 5), 63);
        check.due("points", x.points(), 64);
        check.due("append of a 65th", x.append(1, 6), FULL);
        check.due("points", x.points(), 64);
        check.due("steady of a 65th", x.steady(1, 1, 6, 0), FULL);
        check.due("points", x.points(), 64);
        check.due("value of the 64th", x.value(63), 5);
        check.due("value of a 65th", x.value(64), NONE);
    }

    private static void numberedInOrder() {
        check.sentence("Terms: numbered 0, 1, .. in the order in which they were appended");
        SeriesCodec x = new SeriesCodec();
        for (int i = 0; i < 64; i++) {
            check.due("append", x.append(i, 1000 - i * i % 7), i);
        }
        for (int i = 0; i < 64; i++) {
            check.due("time " + i, x.time(i), i * (i + 1) / 2);
            check.due("value " + i, x.value(i), 1000 - i * i % 7);
        }
    }

    private static void timesFrom0To60000() {
        check.sentence("Terms: a time, 0 to 60000");
        check.due("time 0", Rows.one(0, 1).time(0), 0);
        check.due("time 60000", Rows.one(60000, 1).time(0), 60000);
        check.refused("time -1", SeriesCodec::new, x -> x.append(-1, 1), BAD_ARG);
        check.refused("time 60001", SeriesCodec::new, x -> x.append(60001, 1), BAD_ARG);
        check.due("time 60000 of a second point", Rows.of(59999, 1, 1, 1).time(1), 60000);
        check.refused("time 60001 of a second point", () -> Rows.one(59999, 1), x -> x.append(2, 1), BAD_ARG);
    }

    private static void valuesFrom0To65535() {
        check.sentence("Terms: a value, 0 to 65535");
        check.due("value 0", Rows.one(3, 0).value(0), 0);
        check.due("value 65535", Rows.one(3, 65535).value(0), 65535);
        check.refused("value -1", SeriesCodec::new, x -> x.append(3, -1), BAD_ARG);
        check.refused("value 65536", SeriesCodec::new, x -> x.append(3, 65536), BAD_ARG);
    }

    private static void timesNeverFall() {
        check.sentence("Terms: times never fall");
        SeriesCodec x = Rows.of(500, 1, 0, 2);
        check.due("the same time", x.time(1), 500);
        x.append(1, 3);
        check.due("a later time", x.time(2), 501);
        check.refused("append of an earlier time", () -> Rows.one(500, 1), y -> y.append(-1, 2), BAD_ARG);
        check.refused("steady to an earlier time", () -> Rows.one(500, 1), y -> y.steady(1, -1, 2, 0), BAD_ARG);
    }

    private static void chunksOfSixteen() {
        check.sentence("Terms: chunk c has the points 16 c to 16 c + 15, as far as there are such points");
        for (int n = 0; n <= 64; n++) {
            SeriesCodec x = Rows.steady(n, 0, 8, 0);
            for (int c = 0; c <= 4; c++) {
                int points = Math.max(0, Math.min(16, n - 16 * c));
                // At one time and with one value every point but the first has size 2.
                int size = points == 0 ? NONE : 32 + 2 * (points - 1);
                check.due("size(" + c + ") of " + n + " points", x.size(c), size);
            }
        }
    }

    private static void sizeIsTheSumOfItsPoints() {
        check.sentence("Terms: the size of a chunk is the sum of the sizes of its points");
        SeriesCodec x = new SeriesCodec();
        int total = 32;
        x.append(0, 0);
        for (int k = 1; k < 16; k++) {
            // Gaps grow by 1, and the first change, of the lowest digit, makes the window (15, 0).
            x.append(k, k & 1);
            total += 6 + (k == 1 ? 11 : 3);
            check.due("size of " + (k + 1), x.size(0), total);
        }
        x.append(16, 0);
        check.due("size of 16, with a 17th", x.size(0), total);
        check.due("size of the next chunk", x.size(1), 32);
    }

    private static void firstPointHasSize32() {
        check.sentence("Terms: its first point has size 32");
        check.due("least time and value", Rows.one(0, 0).size(0), 32);
        check.due("greatest time, least value", Rows.one(60000, 0).size(0), 32);
        check.due("least time, greatest value", Rows.one(0, 65535).size(0), 32);
        check.due("greatest time and value", Rows.one(60000, 65535).size(0), 32);
        for (int c = 1; c <= 3; c++) {
            SeriesCodec x = Rows.steady(16 * c, 30, 1, 0);
            x.append(5000, 65534);
            check.due("first of chunk " + c, x.size(c), 32);
            x.append(0, 65534);
            check.due("and a second", x.size(c), 34);
        }
    }

    private static void gapBeforeTheSecondPointIs0() {
        check.sentence("Terms: for the second point of a chunk this last is taken as 0");
        for (int c = 0; c <= 3; c++) {
            SeriesCodec x = Rows.steady(16 * c, 100, 1, 0);
            x.append(100, 1);
            x.append(100, 1);
            check.due("same gap again in chunk " + c, x.size(c), 32 + 21 + 1);
            SeriesCodec y = Rows.steady(16 * c, 100, 1, 0);
            y.append(100, 1);
            y.append(0, 1);
            check.due("no gap in chunk " + c, y.size(c), 32 + 1 + 1);
        }
    }

    private static void gapBeforeTheOthersIsTaken() {
        check.sentence("Terms: D less the same for i - 1, from the third point of a chunk on");
        for (int c = 0; c <= 3; c++) {
            SeriesCodec x = Rows.steady(16 * c, 100, 1, 0);
            x.append(100, 1);
            x.append(200, 1);
            int total = 32 + 21 + 1;
            for (int k = 3; k <= 16; k++) {
                x.append(200, 1);
                total += 1 + 1;
                check.due("same gap at point " + k + " of chunk " + c, x.size(c), total);
            }
        }
        check.due("no gap at the third", Rows.of(0, 1, 200, 1, 0, 1).size(0), 32 + 22 + 22);
    }

    // What a point adds whose gap is greater by d than the one before it, for each place it can have.
    private static void timeSize(int d, int size) {
        for (int c = 0; c <= 3; c++) {
            for (int place = 3; place <= 16; place++) {
                SeriesCodec x = Rows.steady(16 * c + place - 1, 500, 1, 0);
                int before = x.size(c);
                x.append(500 + d, 1);
                check.due("D " + d + " at point " + place + " of chunk " + c, x.size(c) - before, size + 1);
            }
            if (d >= 0) {
                SeriesCodec x = Rows.steady(16 * c + 1, 500, 1, 0);
                x.append(d, 1);
                check.due("D " + d + " at the second of chunk " + c, x.size(c), 32 + size + 1);
            }
        }
    }

    private static void timeSize1() {
        check.sentence("Terms: time: 1 if D = 0");
        timeSize(0, 1);
        timeSize(1, 6);
        timeSize(-1, 6);
    }

    private static void timeSize6() {
        check.sentence("Terms: time: 6 if -7 <= D <= 8");
        timeSize(-7, 6);
        timeSize(-8, 10);
        timeSize(8, 6);
        timeSize(9, 10);
    }

    private static void timeSize10() {
        check.sentence("Terms: time: 10 if -63 <= D <= 64");
        timeSize(-63, 10);
        timeSize(-64, 21);
        timeSize(64, 10);
        timeSize(65, 21);
    }

    private static void timeSize21() {
        check.sentence("Terms: time: 21 otherwise");
        timeSize(500, 21);
        timeSize(-500, 21);
        check.due("greatest D", Rows.of(0, 1, 60000, 1).size(0), 32 + 22);
        check.due("least D", Rows.of(0, 1, 60000, 1, 0, 1).size(0), 32 + 22 + 22);
    }

    // Sizes of the values alone: at one time every point but the first adds 1 for its time.
    private static void valueSizes(String what, int[] values, int... sizes) {
        SeriesCodec x = Rows.one(5, values[0]);
        int total = 32;
        for (int i = 1; i < values.length; i++) {
            x.append(0, values[i]);
            total += 1 + sizes[i - 1];
            check.due(what + ", size with value " + i, x.size(0), total);
        }
    }

    private static void valueSize1() {
        check.sentence("Terms: value: 1 if X = 0");
        valueSizes("0 again", new int[] {0, 0}, 1);
        valueSizes("65535 again", new int[] {65535, 65535}, 1);
        valueSizes("least change", new int[] {0, 1}, 11);
        valueSizes("again, with a window", new int[] {0, 1, 1}, 11, 1);
        valueSizes("again, with a window of all", new int[] {0, 65535, 65535}, 26, 1);
    }

    private static int change(int l, int r) {
        return 1 << (15 - l) | 1 << r;
    }

    private static void zerosOfTheChange() {
        check.sentence("Terms: value: l zeros before its first 1, r behind its last 1, size 2 + 4 + 4 + 16 - l - r");
        valueSizes("first digit", new int[] {0, 0x8000}, 11);
        valueSizes("last digit", new int[] {0, 1}, 11);
        valueSizes("both", new int[] {0, 0x8001}, 26);
        valueSizes("all", new int[] {0, 0xFFFF}, 26);
        valueSizes("all but the first", new int[] {0, 0x7FFF}, 25);
        valueSizes("all but the last", new int[] {0, 0xFFFE}, 25);
        for (int l = 0; l <= 15; l++) {
            for (int r = 0; l + r <= 15; r++) {
                for (int base : new int[] {0, 65535, 0x5A5A}) {
                    valueSizes("l " + l + ", r " + r, new int[] {base, base ^ change(l, r)}, 26 - l - r);
                }
            }
        }
    }

    // Chunks whose every change is the given one, so that each ends with the window of it.
    private static SeriesCodec chunksThatChangeBy(int change, int chunks) {
        SeriesCodec x = new SeriesCodec();
        for (int k = 0; k < 16 * chunks; k++) {
            x.append(0, k % 2 == 0 ? 0 : change);
        }
        return x;
    }

    private static void noWindowAtTheBegin() {
        check.sentence("Terms: value: there is no window at the begin of a chunk");
        int[][] changeAndSize = {{0xFFFF, 26}, {0x8001, 26}, {0x0001, 11}, {0x8000, 11}, {0x0FF0, 18}};
        for (int[] s : changeAndSize) {
            for (int before : new int[] {0xFFFF, s[0]}) {
                for (int c = 0; c <= 3; c++) {
                    SeriesCodec x = chunksThatChangeBy(before, c);
                    x.append(0, 0);
                    x.append(0, s[0]);
                    check.due("change " + s[0] + " in chunk " + c, x.size(c), 32 + 1 + s[1]);
                }
            }
        }
    }

    private static void windowThatFits() {
        check.sentence("Terms: value: a window with l >= L and r >= R");
        int w = change(4, 4);
        valueSizes("l = L and r = R", new int[] {0, w, w ^ change(4, 4)}, 18, 10);
        valueSizes("l = L + 1", new int[] {0, w, w ^ change(5, 4)}, 18, 10);
        valueSizes("l = L - 1", new int[] {0, w, w ^ change(3, 4)}, 18, 19);
        valueSizes("r = R + 1", new int[] {0, w, w ^ change(4, 5)}, 18, 10);
        valueSizes("r = R - 1", new int[] {0, w, w ^ change(4, 3)}, 18, 19);
        valueSizes("both less", new int[] {0, w, w ^ change(3, 3)}, 18, 20);
        valueSizes("l far above, r = R - 1", new int[] {0, w, w ^ change(12, 3)}, 18, 11);
        valueSizes("r far above, l = L - 1", new int[] {0, w, w ^ change(3, 12)}, 18, 11);
    }

    private static void windowForEveryPair() {
        check.sentence("Terms: value: size 2 + 16 - L - R if it fits, else 2 + 4 + 4 + 16 - l - r");
        for (int wl = 0; wl <= 15; wl++) {
            for (int wr = 0; wl + wr <= 15; wr++) {
                for (int l = 0; l <= 15; l++) {
                    for (int r = 0; l + r <= 15; r++) {
                        int size = l >= wl && r >= wr ? 18 - wl - wr : 26 - l - r;
                        int w = change(wl, wr);
                        valueSizes("(" + l + ", " + r + ") in (" + wl + ", " + wr + ")",
                            new int[] {0, w, w ^ change(l, r)}, 26 - wl - wr, size);
                    }
                }
            }
        }
    }

    // The changes in turn from 0 on.
    private static int[] through(int... changes) {
        int[] values = new int[changes.length + 1];
        for (int k = 0; k < changes.length; k++) {
            values[k + 1] = values[k] ^ changes[k];
        }
        return values;
    }

    private static void windowBecomes() {
        check.sentence("Terms: value: else .. the window becomes (l, r)");
        valueSizes("a fit leaves it", through(change(4, 4), change(6, 6), change(4, 4)), 18, 10, 10);
        valueSizes("a miss makes it wider", through(change(4, 4), change(3, 3), change(4, 4)), 18, 20, 12);
        valueSizes("a miss makes it narrower", through(change(4, 4), change(12, 3), change(4, 4), change(12, 3)),
            18, 11, 18, 11);
        valueSizes("a miss moves both", through(change(0, 8), change(8, 0), change(8, 0), change(0, 8)),
            18, 18, 10, 18);
    }

    private static void windowPastEqualValues() {
        check.sentence("Terms: value: 1 if X = 0, and the window stays");
        valueSizes("window kept", through(change(4, 4), 0, change(5, 5)), 18, 1, 10);
        valueSizes("window kept for long", through(change(4, 4), 0, 0, 0, 0, change(3, 4)), 18, 1, 1, 1, 1, 19);
        valueSizes("still no window", through(0, change(0, 0), 0, change(0, 0)), 1, 26, 1, 18);
    }

    private static SeriesCodec aroundASpan() {
        return Rows.of(0, 6, 99, 2, 1, 3, 100, 4, 1, 5, 59799, 1);
    }

    private static void span(SeriesCodec x, int from, int to, int count, int sum, int greatest, int least) {
        String span = "(" + from + ", " + to + ")";
        check.due("count" + span, x.count(from, to), count);
        check.due("sum" + span, x.sum(from, to), sum);
        check.due("greatest" + span, x.greatest(from, to), greatest);
        check.due("least" + span, x.least(from, to), least);
    }

    private static void noSpan(int from, int to) {
        String span = "(" + from + ", " + to + ")";
        for (Rows.Row row : List.of(new Rows.Row("points", 6, TermsTest::aroundASpan), Rows.ALL.get(0))) {
            String on = " on " + row.name();
            check.refused("count" + span + on, row.make(), x -> x.count(from, to), BAD_ARG);
            check.refused("sum" + span + on, row.make(), x -> x.sum(from, to), BAD_ARG);
            check.refused("greatest" + span + on, row.make(), x -> x.greatest(from, to), BAD_ARG);
            check.refused("least" + span + on, row.make(), x -> x.least(from, to), BAD_ARG);
        }
    }

    private static void spanFromAtMostTo() {
        check.sentence("Terms: a span is two times from <= to");
        span(aroundASpan(), 100, 100, 1, 3, 3, 3);
        span(aroundASpan(), 99, 100, 2, 5, 3, 2);
        noSpan(101, 100);
        noSpan(100, 99);
        noSpan(60000, 0);
        noSpan(1, 0);
        noSpan(60000, 59999);
    }

    private static void spanFrom0To60000() {
        check.sentence("Terms: a span is two times .. 0 to 60000");
        span(aroundASpan(), 0, 60000, 6, 21, 6, 1);
        span(aroundASpan(), 0, 0, 1, 6, 6, 6);
        span(aroundASpan(), 60000, 60000, 1, 1, 1, 1);
        noSpan(-1, 60000);
        noSpan(-1, 0);
        noSpan(-1, -1);
        noSpan(0, 60001);
        noSpan(60000, 60001);
        noSpan(60001, 60001);
    }

    private static void inSpanBothEnds() {
        check.sentence("Terms: a point is in it if its time is from to to, both included");
        span(aroundASpan(), 100, 200, 2, 7, 4, 3);
        span(aroundASpan(), 99, 200, 3, 9, 4, 2);
        span(aroundASpan(), 101, 200, 1, 4, 4, 4);
        span(aroundASpan(), 100, 199, 1, 3, 3, 3);
        span(aroundASpan(), 100, 201, 3, 12, 5, 3);
        span(aroundASpan(), 101, 199, 0, 0, NONE, NONE);
    }

    private static void codes() {
        check.sentence("Terms: the constants");
        check.due("BAD_ARG", BAD_ARG, -1);
        check.due("FULL", FULL, -2);
        check.due("NONE", NONE, -4);
    }
}
