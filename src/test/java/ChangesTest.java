/** Promises 1 to 5, sentence by sentence: each bound that they name, on both sides. */
public final class ChangesTest {
    private static final int BAD_ARG = SeriesCodec.BAD_ARG;
    private static final int FULL = SeriesCodec.FULL;
    private static final int NONE = SeriesCodec.NONE;
    private static final int MIN = Integer.MIN_VALUE;
    private static final int MAX = Integer.MAX_VALUE;

    private static final Check check = new Check();

    public static void main(String[] args) {
        check.run(
            ChangesTest::newObjectHasNoPoint,
            ChangesTest::appendFirstPoint,
            ChangesTest::appendBehindTheLastPoint,
            ChangesTest::appendGapRange,
            ChangesTest::appendTimeAbove,
            ChangesTest::appendValueRange,
            ChangesTest::appendFull,
            ChangesTest::appendBadArgBeforeFull,
            ChangesTest::appendAnswersItsNumber,
            ChangesTest::steadyGapsAndValues,
            ChangesTest::steadyModulo,
            ChangesTest::steadyManyRange,
            ChangesTest::steadyOfNone,
            ChangesTest::steadyGapRange,
            ChangesTest::steadyTimeAbove,
            ChangesTest::steadyValueRange,
            ChangesTest::steadyStepRange,
            ChangesTest::steadyFull,
            ChangesTest::steadyBadArgBeforeFull,
            ChangesTest::steadyAnswersThePoints,
            ChangesTest::dropOldestOf16OrMore,
            ChangesTest::dropOldestOfFewer,
            ChangesTest::dropOldestNumbers,
            ChangesTest::dropOldestSizesStay,
            ChangesTest::dropOldestThenAppend,
            ChangesTest::unappendOfNone,
            ChangesTest::unappendAnswersItsValue,
            ChangesTest::unappendTakesTheLast);
        check.finish();
    }

    private static SeriesCodec full() {
        return Rows.steady(64, 900, 100, 1);
    }

    private static void newObjectHasNoPoint() {
        check.sentence("Promise 1: no point");
        SeriesCodec x = new SeriesCodec();
        check.due("points", x.points(), 0);
        check.due("time(0)", x.time(0), NONE);
        check.due("value(0)", x.value(0), NONE);
        check.due("size(0)", x.size(0), NONE);
        check.due("packed", x.packed(), 0);
        check.due("firstFrom(0)", x.firstFrom(0), NONE);
        check.due("count", x.count(0, 60000), 0);
        check.due("sum", x.sum(0, 60000), 0);
        check.due("greatest", x.greatest(0, 60000), NONE);
        check.due("least", x.least(0, 60000), NONE);
        check.due("valueAt(60000)", x.valueAt(60000), NONE);
        check.due("rises", x.rises(), 0);
        check.due("widestGap", x.widestGap(), NONE);
        check.due("unappend", x.unappend(), NONE);
        check.due("dropOldest", x.dropOldest(), NONE);
        check.due("append", x.append(4, 5), 0);
    }

    private static void appendFirstPoint() {
        check.sentence("Promise 2: for the first point: the time gap");
        for (Rows.Row row : Rows.ALL.subList(0, 3)) {
            for (int gap : new int[] {0, 1, 799, 800, 60000}) {
                SeriesCodec x = row.make().get();
                check.due("first append, " + row.name(), x.append(gap, 9), 0);
                check.due("its time, " + row.name(), x.time(0), gap);
                check.due("its value, " + row.name(), x.value(0), 9);
            }
        }
    }

    private static void appendBehindTheLastPoint() {
        check.sentence("Promise 2: a time gap greater than that of the last point, and this value");
        for (Rows.Row row : Rows.ALL) {
            SeriesCodec x = row.make().get();
            int n = x.points();
            if (n == 0 || n == 64) {
                continue;
            }
            int last = x.time(n - 1);
            int gap = Math.min(13, 60000 - last);
            check.due("append, " + row.name(), x.append(gap, 4321), n);
            check.due("its time, " + row.name(), x.time(n), last + gap);
            check.due("its value, " + row.name(), x.value(n), 4321);
            check.due("the time before, " + row.name(), x.time(n - 1), last);
        }
    }

    private static void appendGapRange() {
        check.sentence("Promise 2: gap not 0 to 60000 answers BAD_ARG");
        check.due("gap 0", new SeriesCodec().append(0, 1), 0);
        check.due("gap 60000", new SeriesCodec().append(60000, 1), 0);
        check.due("gap 0 of a second point", Rows.one(60000, 0).append(0, 1), 1);
        check.due("gap 60000 of a second point", Rows.one(0, 0).append(60000, 1), 1);
        for (int gap : new int[] {-1, -60000, 60001, 65536, MIN, MAX}) {
            check.refused("gap " + gap, SeriesCodec::new, x -> x.append(gap, 1), BAD_ARG);
            check.refused("gap " + gap + " behind", () -> Rows.one(60000, 3), x -> x.append(gap, 1), BAD_ARG);
        }
    }

    private static void appendTimeAbove() {
        check.sentence("Promise 2: the time above 60000 answers BAD_ARG");
        int[][] lastAndGap = {{0, 60000}, {1, 59999}, {30000, 30000}, {59999, 1}, {60000, 0}};
        for (int[] g : lastAndGap) {
            SeriesCodec x = Rows.one(g[0], 3);
            check.due("up to 60000 from " + g[0], x.append(g[1], 4), 1);
            check.due("its time", x.time(1), 60000);
            check.refused("60001 from " + g[0], () -> Rows.one(g[0], 3), y -> y.append(g[1] + 1, 4), BAD_ARG);
        }
        check.refused("twice 60000", () -> Rows.one(60000, 3), x -> x.append(60000, 4), BAD_ARG);
        // With the last point gone its time no longer counts.
        SeriesCodec back = Rows.of(10, 1, 59990, 2);
        back.unappend();
        check.due("up to 60000 again", back.append(59990, 3), 1);
    }

    private static void appendValueRange() {
        check.sentence("Promise 2: value not 0 to 65535 answers BAD_ARG");
        check.due("value 0", new SeriesCodec().append(1, 0), 0);
        check.due("value 65535", new SeriesCodec().append(1, 65535), 0);
        for (int value : new int[] {-1, -65535, 65536, 131072, MIN, MAX}) {
            check.refused("value " + value, SeriesCodec::new, x -> x.append(1, value), BAD_ARG);
            check.refused("value " + value + " behind", () -> Rows.one(5, 3), x -> x.append(1, value), BAD_ARG);
        }
    }

    private static void appendFull() {
        check.sentence("Promise 2: FULL");
        check.due("the 64th", Rows.steady(63, 900, 100, 1).append(1, 2), 63);
        check.refused("a 65th", ChangesTest::full, x -> x.append(1, 2), FULL);
        check.refused("a 65th at the last time", Rows::fullUpToTheLastTime, x -> x.append(0, 2), FULL);
        SeriesCodec x = full();
        x.unappend();
        check.due("the 64th again", x.append(1, 2), 63);
    }

    private static void appendBadArgBeforeFull() {
        check.sentence("Promise 2: tested in this order: BAD_ARG; FULL");
        check.refused("gap -1", ChangesTest::full, x -> x.append(-1, 2), BAD_ARG);
        check.refused("gap 0", ChangesTest::full, x -> x.append(0, 2), FULL);
        check.refused("gap 60001", ChangesTest::full, x -> x.append(60001, 2), BAD_ARG);
        check.refused("time 60000", ChangesTest::full, x -> x.append(2400, 2), FULL);
        check.refused("time 60001", ChangesTest::full, x -> x.append(2401, 2), BAD_ARG);
        check.refused("value -1", ChangesTest::full, x -> x.append(1, -1), BAD_ARG);
        check.refused("value 0", ChangesTest::full, x -> x.append(1, 0), FULL);
        check.refused("value 65535", ChangesTest::full, x -> x.append(1, 65535), FULL);
        check.refused("value 65536", ChangesTest::full, x -> x.append(1, 65536), BAD_ARG);
    }

    private static void appendAnswersItsNumber() {
        check.sentence("Promise 2: otherwise its number");
        SeriesCodec x = new SeriesCodec();
        for (int i = 0; i < 64; i++) {
            check.due("append", x.append(2, 7), i);
        }
        x.dropOldest();
        check.due("append after dropOldest", x.append(2, 7), 48);
        x.unappend();
        x.unappend();
        check.due("append after unappend", x.append(2, 7), 47);
    }

    private static void steadyGapsAndValues() {
        check.sentence("Promise 3: each with this gap, the first with this value, each further one greater by step");
        SeriesCodec x = Rows.steady(64, 937, 1000, 50);
        for (int i = 0; i < 64; i++) {
            check.due("time " + i, x.time(i), 937 * (i + 1));
            check.due("value " + i, x.value(i), 1000 + 50 * i);
        }
        SeriesCodec y = Rows.of(500, 60000);
        y.steady(3, 10, 40, -20);
        int[][] due = {{500, 60000}, {510, 40}, {520, 20}, {530, 0}};
        for (int i = 0; i < due.length; i++) {
            check.due("time " + i, y.time(i), due[i][0]);
            check.due("value " + i, y.value(i), due[i][1]);
        }
        check.due("time behind", y.time(4), NONE);
    }

    private static void values(String what, SeriesCodec x, int... due) {
        for (int i = 0; i < due.length; i++) {
            check.due(what + ", value " + i, x.value(i), due[i]);
        }
    }

    private static void steadyModulo() {
        check.sentence("Promise 3: greater by step (modulo 65536)");
        values("up to 65535", Rows.steady(3, 1, 65533, 1), 65533, 65534, 65535);
        values("over 65535", Rows.steady(4, 1, 65534, 1), 65534, 65535, 0, 1);
        values("down to 0", Rows.steady(3, 1, 2, -1), 2, 1, 0);
        values("below 0", Rows.steady(4, 1, 1, -1), 1, 0, 65535, 65534);
        values("greatest step", Rows.steady(4, 1, 0, 65535), 0, 65535, 65534, 65533);
        values("greatest step from the greatest", Rows.steady(3, 1, 65535, 65535), 65535, 65534, 65533);
        values("least step", Rows.steady(4, 1, 65535, -65535), 65535, 0, 1, 2);
        values("least step from the least", Rows.steady(3, 1, 0, -65535), 0, 1, 2);
        values("over and over", Rows.steady(5, 1, 0, 32768), 0, 32768, 0, 32768, 0);
        values("under and under", Rows.steady(5, 1, 5, -32768), 5, 32773, 5, 32773, 5);
        check.due("far over", Rows.steady(64, 1, 65535, 65535).value(63), 65535 - 63);
        check.due("far under", Rows.steady(64, 1, 0, -65535).value(63), 63);
    }

    private static void steadyManyRange() {
        check.sentence("Promise 3: many not 0 to 64 answers BAD_ARG");
        check.due("many 0", new SeriesCodec().steady(0, 1, 1, 1), 0);
        check.due("many 1", new SeriesCodec().steady(1, 1, 1, 1), 1);
        check.due("many 64", new SeriesCodec().steady(64, 1, 1, 1), 64);
        for (int many : new int[] {-1, -64, 65, 128, MIN, MAX}) {
            check.refused("many " + many, SeriesCodec::new, x -> x.steady(many, 1, 1, 1), BAD_ARG);
            check.refused("many " + many + " behind", () -> Rows.one(9, 9), x -> x.steady(many, 0, 1, 1), BAD_ARG);
            check.refused("many " + many + " when full", ChangesTest::full, x -> x.steady(many, 0, 1, 1), BAD_ARG);
        }
        check.refused("many 64 with one point", () -> Rows.one(9, 9), x -> x.steady(64, 0, 1, 1), FULL);
    }

    private static void steadyOfNone() {
        check.sentence("Promise 3: many 0 appends no point, and its other arguments are tested");
        for (Rows.Row row : Rows.ALL) {
            for (int[] a : new int[][] {{0, 0, 0, 0}, {0, 60000, 65535, 65535}, {0, 60000, 0, -65535}}) {
                check.changesNothing(steady(a) + ", " + row.name(), row.make(),
                    x -> x.steady(a[0], a[1], a[2], a[3]), row.points());
            }
            for (int[] a : new int[][] {
                    {0, -1, 0, 0}, {0, 60001, 0, 0}, {0, 0, -1, 0}, {0, 0, 65536, 0}, {0, 0, 0, -65536}, {0, 0, 0, 65536}}) {
                check.refused(steady(a) + ", " + row.name(), row.make(),
                    x -> x.steady(a[0], a[1], a[2], a[3]), BAD_ARG);
            }
        }
    }

    private static void steadyGapRange() {
        check.sentence("Promise 3: gap not 0 to 60000 answers BAD_ARG");
        check.due("gap 0", new SeriesCodec().steady(64, 0, 1, 1), 64);
        check.due("gap 60000", new SeriesCodec().steady(1, 60000, 1, 1), 1);
        // The last two are 0 and less than 0 when taken times 64.
        for (int gap : new int[] {-1, -60000, 60001, MIN, MAX, 67108864, 33554433}) {
            check.refused("gap " + gap, SeriesCodec::new, x -> x.steady(1, gap, 1, 1), BAD_ARG);
            check.refused("64 with gap " + gap, SeriesCodec::new, x -> x.steady(64, gap, 1, 1), BAD_ARG);
            check.refused("gap " + gap + " behind", () -> Rows.one(60000, 3), x -> x.steady(2, gap, 1, 1), BAD_ARG);
        }
    }

    private static void steadyTimeAbove() {
        check.sentence("Promise 3: a time above 60000 answers BAD_ARG");
        int[][] lastManyGap = {
            {0, 1, 60000}, {0, 2, 30000}, {0, 60, 1000}, {24, 63, 952}, {969, 63, 937},
            {59937, 63, 1}, {59998, 2, 1}, {59999, 1, 1},
        };
        for (int[] g : lastManyGap) {
            String from = " from " + g[0];
            SeriesCodec x = Rows.one(g[0], 3);
            check.due("up to 60000" + from, x.steady(g[1], g[2], 4, 0), g[1] + 1);
            check.due("the last time" + from, x.time(g[1]), 60000);
            check.refused("a greater gap" + from, () -> Rows.one(g[0], 3),
                y -> y.steady(g[1], g[2] + 1, 4, 0), BAD_ARG);
            check.refused("a later begin" + from, () -> Rows.one(g[0] + 1, 3),
                y -> y.steady(g[1], g[2], 4, 0), BAD_ARG);
        }
        check.due("63 at 60000", Rows.one(60000, 3).steady(63, 0, 4, 0), 64);
        check.due("64 new points up to 59968", new SeriesCodec().steady(64, 937, 4, 0), 64);
        check.refused("64 new points up to 60032", SeriesCodec::new, x -> x.steady(64, 938, 4, 0), BAD_ARG);
        check.refused("64 of 60000", SeriesCodec::new, x -> x.steady(64, 60000, 4, 0), BAD_ARG);
    }

    private static void steadyValueRange() {
        check.sentence("Promise 3: value not 0 to 65535 answers BAD_ARG");
        check.due("value 0", new SeriesCodec().steady(2, 1, 0, 0), 2);
        check.due("value 65535", new SeriesCodec().steady(2, 1, 65535, 0), 2);
        for (int value : new int[] {-1, 65536, MIN, MAX}) {
            check.refused("value " + value, SeriesCodec::new, x -> x.steady(2, 1, value, 0), BAD_ARG);
            check.refused("value " + value + " behind", () -> Rows.one(5, 3), x -> x.steady(2, 1, value, 0), BAD_ARG);
        }
    }

    private static void steadyStepRange() {
        check.sentence("Promise 3: step not -65535 to 65535 answers BAD_ARG");
        check.due("step -65535", new SeriesCodec().steady(2, 1, 7, -65535), 2);
        check.due("step 65535", new SeriesCodec().steady(2, 1, 7, 65535), 2);
        for (int step : new int[] {-65536, 65536, MIN, MAX}) {
            check.refused("step " + step, SeriesCodec::new, x -> x.steady(2, 1, 7, step), BAD_ARG);
            check.refused("step " + step + " of one", SeriesCodec::new, x -> x.steady(1, 1, 7, step), BAD_ARG);
            check.refused("step " + step + " behind", () -> Rows.one(5, 3), x -> x.steady(2, 1, 7, step), BAD_ARG);
        }
    }

    private static void steadyFull() {
        check.sentence("Promise 3: there would be more than 64 points answers FULL");
        for (int held : new int[] {1, 15, 16, 17, 48, 62, 63}) {
            int room = 64 - held;
            check.due("just enough behind " + held, Rows.steady(held, 9, 1, 1).steady(room, 1, 7, 0), 64);
            check.refused("one too many behind " + held, () -> Rows.steady(held, 9, 1, 1),
                x -> x.steady(room + 1, 1, 7, 0), FULL);
            check.refused("64 behind " + held, () -> Rows.steady(held, 9, 1, 1), x -> x.steady(64, 1, 7, 0), FULL);
        }
        check.refused("one when full", ChangesTest::full, x -> x.steady(1, 1, 7, 0), FULL);
        check.refused("64 when full", ChangesTest::full, x -> x.steady(64, 1, 7, 0), FULL);
    }

    private static void steadyBadArgBeforeFull() {
        check.sentence("Promise 3: tested in this order: BAD_ARG; FULL");
        int[][] fits = {
            {64, 37, 1, 1}, {1, 2400, 1, 1}, {2, 1200, 1, 1}, {1, 0, 0, 1},
            {1, 0, 65535, 1}, {1, 0, 1, -65535}, {1, 0, 1, 65535},
        };
        int[][] beyond = {
            {65, 0, 1, 1}, {-1, 0, 1, 1}, {64, 38, 1, 1}, {1, -1, 1, 1}, {1, 60001, 1, 1}, {1, 2401, 1, 1},
            {2, 1201, 1, 1}, {1, 0, -1, 1}, {1, 0, 65536, 1}, {1, 0, 1, -65536}, {1, 0, 1, 65536},
        };
        for (int[] a : fits) {
            check.refused(steady(a), ChangesTest::full, x -> x.steady(a[0], a[1], a[2], a[3]), FULL);
        }
        for (int[] a : beyond) {
            check.refused(steady(a), ChangesTest::full, x -> x.steady(a[0], a[1], a[2], a[3]), BAD_ARG);
        }
        // A time counts even if it would be that of a 65th point.
        check.refused("fifth time 60000", () -> Rows.steady(60, 900, 0, 0), x -> x.steady(5, 1200, 0, 0), FULL);
        check.refused("fifth time 60005", () -> Rows.steady(60, 900, 0, 0), x -> x.steady(5, 1201, 0, 0), BAD_ARG);
        check.due("four of them", Rows.steady(60, 900, 0, 0).steady(4, 1201, 0, 0), 64);
    }

    private static String steady(int[] a) {
        return "steady(" + a[0] + ", " + a[1] + ", " + a[2] + ", " + a[3] + ")";
    }

    private static void steadyAnswersThePoints() {
        check.sentence("Promise 3: otherwise the number of points");
        SeriesCodec x = new SeriesCodec();
        check.due("one", x.steady(1, 1, 1, 1), 1);
        check.due("three more", x.steady(3, 1, 1, 1), 4);
        check.due("none more", x.steady(0, 1, 1, 1), 4);
        check.due("sixty more", x.steady(60, 1, 1, 1), 64);
        check.due("points", x.points(), 64);
    }

    private static void dropOldestOf16OrMore() {
        check.sentence("Promise 4: if there are 16 or more; the number of points left");
        for (int n = 16; n <= 64; n++) {
            SeriesCodec x = Rows.steady(n, 10, 1, 1);
            check.due("dropOldest of " + n, x.dropOldest(), n - 16);
            check.due("points", x.points(), n - 16);
        }
        SeriesCodec x = full();
        for (int left = 48; left >= 0; left -= 16) {
            check.due("dropOldest", x.dropOldest(), left);
        }
        check.due("dropOldest of none", x.dropOldest(), NONE);
    }

    private static void dropOldestOfFewer() {
        check.sentence("Promise 4: NONE if there are fewer");
        for (int n = 0; n <= 15; n++) {
            int many = n;
            check.refused("dropOldest of " + n, () -> Rows.steady(many, 10, 1, 1), SeriesCodec::dropOldest, NONE);
            check.refused("dropOldest of " + n + " left", () -> leftOf(many + 16), SeriesCodec::dropOldest, NONE);
        }
    }

    private static SeriesCodec leftOf(int many) {
        SeriesCodec x = Rows.steady(many, 10, 1, 1);
        x.dropOldest();
        return x;
    }

    private static void dropOldestNumbers() {
        check.sentence("Promise 4: the others get numbers less by 16");
        for (int n : new int[] {16, 17, 31, 32, 33, 47, 48, 49, 63, 64}) {
            SeriesCodec x = Rows.steady(n, 10, 1, 1);
            x.dropOldest();
            for (int i = 0; i < n - 16; i++) {
                check.due("time " + i, x.time(i), 10 * (i + 17));
                check.due("value " + i, x.value(i), i + 17);
            }
            check.due("time behind " + n, x.time(n - 16), NONE);
            check.due("value behind " + n, x.value(n - 16), NONE);
        }
    }

    private static void dropOldestSizesStay() {
        check.sentence("Promise 4: and chunks by one; their sizes stay");
        for (int n : new int[] {16, 17, 31, 32, 33, 47, 48, 49, 63, 64}) {
            SeriesCodec x = Rows.steady(n, 10, 60000, 977);
            int[] sizes = {x.size(0), x.size(1), x.size(2), x.size(3), NONE};
            int packed = x.packed();
            x.dropOldest();
            for (int c = 0; c < 4; c++) {
                check.due("size " + c + " of " + n, x.size(c), sizes[c + 1]);
            }
            check.due("packed of " + n, x.packed(), packed - sizes[0]);
        }
    }

    private static void dropOldestThenAppend() {
        check.sentence("Promise 4: what is left goes on from its last point");
        SeriesCodec x = Rows.steady(17, 100, 1, 1);
        x.dropOldest();
        check.due("append", x.append(5, 8), 1);
        check.due("its time", x.time(1), 1705);
        check.due("its size", x.size(0), 32 + 6 + 15);
        check.due("up to the last time", x.append(60000 - 1705, 8), 2);
        check.due("beyond", x.append(1, 8), BAD_ARG);
    }

    private static void unappendOfNone() {
        check.sentence("Promise 5: NONE if there is none");
        for (Rows.Row row : Rows.ALL.subList(0, 3)) {
            check.refused("unappend, " + row.name(), row.make(), SeriesCodec::unappend, NONE);
        }
        SeriesCodec x = Rows.one(5, 0);
        check.due("unappend of one", x.unappend(), 0);
        check.due("unappend of none", x.unappend(), NONE);
    }

    private static void unappendAnswersItsValue() {
        check.sentence("Promise 5: otherwise its value");
        check.due("least", Rows.of(1, 9, 1, 0).unappend(), 0);
        check.due("greatest", Rows.of(1, 9, 1, 65535).unappend(), 65535);
        check.due("of one", Rows.one(60000, 8).unappend(), 8);
        check.due("of 64", full().unappend(), 163);
    }

    private static void unappendTakesTheLast() {
        check.sentence("Promise 5: takes the last point away");
        SeriesCodec x = full();
        for (int n = 63; n >= 0; n--) {
            x.unappend();
            check.due("points", x.points(), n);
            check.due("time of the last", x.time(n - 1), n == 0 ? NONE : 900 * n);
            check.due("time behind", x.time(n), NONE);
        }
        // As if the point had never been: the chunk's window and gap are those from before it.
        for (int n = 1; n <= 33; n++) {
            SeriesCodec kept = Rows.steady(n, 40, 64000, 1234);
            SeriesCodec undone = Rows.steady(n, 40, 64000, 1234);
            undone.append(900, 1);
            undone.unappend();
            check.holds("as before, with " + n, Answers.ofLaterCalls(undone).equals(Answers.ofLaterCalls(kept)));
        }
    }
}
