import java.util.function.ToIntFunction;

/** "An object is used for at most 512 calls": each of the 512 is answered rightly, the last one too. */
public final class LifeTest {
    private static final int BAD_ARG = SeriesCodec.BAD_ARG;
    private static final int FULL = SeriesCodec.FULL;
    private static final int NONE = SeriesCodec.NONE;
    private static final int CALLS = 512;

    private static final Check check = new Check();

    public static void main(String[] args) {
        check.run(
            LifeTest::oneCallAgainAndAgain,
            LifeTest::refusedToTheLastCall,
            LifeTest::appendedAndTakenAway,
            LifeTest::filledAndEmptied,
            LifeTest::chunksComeAndGo,
            LifeTest::timeGoesOnOverDroppedChunks,
            LifeTest::everyObjectHasItsOwnPoints);
        check.finish();
    }

    /** Makes the call as often as is left of the 512 after those already made. */
    private static void always(String name, SeriesCodec x, int made, ToIntFunction<SeriesCodec> call, int want) {
        for (int k = made + 1; k <= CALLS; k++) {
            check.due(name + " as call " + k, call.applyAsInt(x), want);
        }
    }

    // Points 3, 10, 17, .. at 100, 200, 300, ..
    private static void asked(String name, ToIntFunction<SeriesCodec> call, int want) {
        always(name, Rows.steady(20, 100, 3, 7), 1, call, want);
    }

    private static void oneCallAgainAndAgain() {
        check.sentence("What it is: at most 512 calls: a call that asks");
        asked("points()", x -> x.points(), 20);
        asked("time(19)", x -> x.time(19), 2000);
        asked("value(19)", x -> x.value(19), 136);
        asked("size(2)", x -> x.size(2), NONE);
        asked("firstFrom(201)", x -> x.firstFrom(201), 2);
        asked("count(100, 300)", x -> x.count(100, 300), 3);
        asked("sum(100, 300)", x -> x.sum(100, 300), 30);
        asked("greatest(100, 300)", x -> x.greatest(100, 300), 17);
        asked("least(100, 300)", x -> x.least(100, 300), 3);
        asked("valueAt(299)", x -> x.valueAt(299), 10);
        asked("rises()", x -> x.rises(), 19);
        asked("widestGap()", x -> x.widestGap(), 100);
        // 32, then time 6 and value 1 for D = 4 and X = 0.
        always("size(0)", Rows.steady(2, 4, 9, 0), 1, x -> x.size(0), 39);
        always("packed()", Rows.steady(2, 4, 9, 0), 1, x -> x.packed(), 39);
    }

    private static void refusedToTheLastCall() {
        check.sentence("What it is: at most 512 calls: a refused call");
        always("append(-1, 0)", new SeriesCodec(), 0, x -> x.append(-1, 0), BAD_ARG);
        always("steady(65, 0, 0, 0)", new SeriesCodec(), 0, x -> x.steady(65, 0, 0, 0), BAD_ARG);
        always("dropOldest()", new SeriesCodec(), 0, SeriesCodec::dropOldest, NONE);
        always("unappend()", new SeriesCodec(), 0, SeriesCodec::unappend, NONE);
        always("append(0, 1)", Rows.steady(64, 1, 1, 0), 1, x -> x.append(0, 1), FULL);
        always("steady(1, 0, 1, 0)", Rows.steady(64, 1, 1, 0), 1, x -> x.steady(1, 0, 1, 0), FULL);
        always("steady(0, 0, 0, 0)", new SeriesCodec(), 0, x -> x.steady(0, 0, 0, 0), 0);
    }

    private static void appendedAndTakenAway() {
        check.sentence("What it is: at most 512 calls: append and unappend by turns");
        SeriesCodec x = new SeriesCodec();
        for (int k = 0; k < CALLS / 2; k++) {
            check.due("append(60000, " + k + ")", x.append(60000, k), 0);
            check.due("unappend() of " + k, x.unappend(), k);
        }
    }

    // 64 appends and 64 unappends make 128 calls, so there are four rounds.
    private static void filledAndEmptied() {
        check.sentence("What it is: at most 512 calls: filled and emptied");
        SeriesCodec x = new SeriesCodec();
        for (int round = 0; round < 4; round++) {
            for (int i = 0; i < 64; i++) {
                check.due("append of point " + i + " in round " + round, x.append(900, round * 64 + i), i);
            }
            for (int i = 63; i >= 0; i--) {
                check.due("unappend of point " + i + " in round " + round, x.unappend(), round * 64 + i);
            }
        }
    }

    // 30 rounds of 17 calls, and two more.
    private static void chunksComeAndGo() {
        check.sentence("What it is: at most 512 calls: chunks appended and dropped");
        SeriesCodec x = new SeriesCodec();
        for (int round = 0; round < 30; round++) {
            for (int i = 0; i < 16; i++) {
                check.due("append of point " + i + " in round " + round, x.append(3000, i), i);
            }
            check.due("dropOldest() in round " + round, x.dropOldest(), 0);
        }
        check.due("packed() as call 511", x.packed(), 0);
        check.due("append(60000, 8) as call 512", x.append(60000, 8), 0);
    }

    // Each round appends a chunk behind the one that is left, which leads to 4096 points in all.
    private static void timeGoesOnOverDroppedChunks() {
        check.sentence("What it is: at most 512 calls: the time goes on while points are left");
        SeriesCodec x = new SeriesCodec();
        check.due("the first chunk", x.steady(16, 14, 0, 1), 16);
        for (int round = 1; round < 255; round++) {
            check.due("steady in round " + round, x.steady(16, 14, round * 16, 1), 32);
            check.due("dropOldest in round " + round, x.dropOldest(), 16);
        }
        check.due("time(15) as call 510", x.time(15), 255 * 16 * 14);
        check.due("value(0) as call 511", x.value(0), 254 * 16);
        check.due("steady as call 512", x.steady(48, 60, 0, 0), 64);
    }

    private static void everyObjectHasItsOwnPoints() {
        check.sentence("Promise 1: no point, whatever other objects have");
        SeriesCodec x = Rows.steady(30, 10, 500, 1);
        SeriesCodec y = new SeriesCodec();
        check.due("points() of the new one", y.points(), 0);
        check.due("append to the new one", y.append(7, 8), 0);
        check.due("points() of the first one", x.points(), 30);
        check.due("time(0) of the first one", x.time(0), 10);
        check.due("value(0) of the first one", x.value(0), 500);
        check.due("dropOldest of the first one", x.dropOldest(), 14);
        check.due("time(0) of the new one", y.time(0), 7);
        check.due("value(0) of the new one", y.value(0), 8);
    }
}
