import java.util.ArrayList;
import java.util.List;
import java.util.function.ToIntFunction;

/** "No call ever throws. A refused call answers the code named and changes nothing." */
public final class RefusedTest {
    private static final int BAD_ARG = SeriesCodec.BAD_ARG;
    private static final int FULL = SeriesCodec.FULL;
    private static final int NONE = SeriesCodec.NONE;
    private static final int MIN = Integer.MIN_VALUE;
    private static final int MAX = Integer.MAX_VALUE;

    private static final int[] ODD = {
        MIN, MIN + 1, -65536, -65535, -1, 0, 1, 16, 64, 65, 60000, 60001, 65535, 65536, 1 << 26, 1 << 28, MAX - 1, MAX,
    };

    private static final Check check = new Check();

    private record Call(String name, ToIntFunction<SeriesCodec> does) {}

    public static void main(String[] args) {
        check.run(
            RefusedTest::badArgInEveryState,
            RefusedTest::fullChangesNothing,
            RefusedTest::noneChangesNothing,
            RefusedTest::askingChangesNothing,
            RefusedTest::manyRefusalsInARow,
            RefusedTest::neverThrows);
        check.finish();
    }

    private static Call append(int gap, int value) {
        return new Call("append(" + gap + ", " + value + ")", x -> x.append(gap, value));
    }

    private static Call steady(int many, int gap, int value, int step) {
        return new Call("steady(" + many + ", " + gap + ", " + value + ", " + step + ")",
            x -> x.steady(many, gap, value, step));
    }

    private static List<Call> spans(int from, int to) {
        String span = "(" + from + ", " + to + ")";
        return List.of(
            new Call("count" + span, x -> x.count(from, to)),
            new Call("sum" + span, x -> x.sum(from, to)),
            new Call("greatest" + span, x -> x.greatest(from, to)),
            new Call("least" + span, x -> x.least(from, to)));
    }

    private static List<Call> indexed(int i) {
        return List.of(
            new Call("time(" + i + ")", x -> x.time(i)),
            new Call("value(" + i + ")", x -> x.value(i)),
            new Call("size(" + i + ")", x -> x.size(i)));
    }

    private static List<Call> timed(int t) {
        return List.of(
            new Call("firstFrom(" + t + ")", x -> x.firstFrom(t)),
            new Call("valueAt(" + t + ")", x -> x.valueAt(t)));
    }

    private static List<Call> plain() {
        return List.of(
            new Call("points()", SeriesCodec::points),
            new Call("packed()", SeriesCodec::packed),
            new Call("rises()", SeriesCodec::rises),
            new Call("widestGap()", SeriesCodec::widestGap));
    }

    // Calls with an argument that is out of its range whatever the points are.
    private static List<Call> alwaysBad() {
        List<Call> all = new ArrayList<>();
        for (int bad : new int[] {MIN, -1, 60001, MAX}) {
            all.add(append(bad, 1));
            all.add(steady(1, bad, 1, 1));
        }
        for (int bad : new int[] {MIN, -1, 65536, MAX}) {
            all.add(append(0, bad));
            all.add(steady(1, 0, bad, 1));
        }
        for (int bad : new int[] {MIN, -1, 65, MAX}) {
            all.add(steady(bad, 0, 1, 1));
        }
        for (int bad : new int[] {MIN, -65536, 65536, MAX}) {
            all.add(steady(1, 0, 1, bad));
        }
        all.add(steady(64, 938, 1, 1));
        all.addAll(spans(1, 0));
        all.addAll(spans(-1, 0));
        all.addAll(spans(60000, 60001));
        return all;
    }

    private static void badArgInEveryState() {
        check.sentence("Terms: a refused call answers the code named and changes nothing: BAD_ARG");
        for (Rows.Row row : Rows.ALL) {
            for (Call call : alwaysBad()) {
                check.refused(call.name() + ", " + row.name(), row.make(), call.does(), BAD_ARG);
            }
        }
        for (Call call : List.of(append(1, 1), append(60000, 1), steady(1, 1, 1, 1), steady(63, 1, 1, 1))) {
            check.refused(call.name() + " at the last time", () -> Rows.one(60000, 5), call.does(), BAD_ARG);
        }
    }

    private static void fullChangesNothing() {
        check.sentence("Terms: a refused call answers the code named and changes nothing: FULL");
        for (Rows.Row row : Rows.ALL) {
            int room = 64 - row.points();
            if (room < 64) {
                Call call = steady(room + 1, 0, 65535, 65535);
                check.refused(call.name() + ", " + row.name(), row.make(), call.does(), FULL);
            }
            if (room == 0) {
                Call call = append(0, 65535);
                check.refused(call.name() + ", " + row.name(), row.make(), call.does(), FULL);
            }
        }
    }

    private static void noneChangesNothing() {
        check.sentence("Terms: a refused call answers the code named and changes nothing: NONE");
        for (Rows.Row row : Rows.ALL) {
            List<Call> none = new ArrayList<>();
            for (int i : new int[] {MIN, -1, row.points(), 64, MAX}) {
                none.add(indexed(i).get(0));
                none.add(indexed(i).get(1));
            }
            none.add(indexed(-1).get(2));
            none.add(indexed((row.points() + 15) / 16).get(2));
            none.add(timed(60001).get(0));
            none.add(timed(-1).get(1));
            if (row.points() < 16) {
                none.add(new Call("dropOldest()", SeriesCodec::dropOldest));
            }
            if (row.points() < 2) {
                none.add(new Call("widestGap()", SeriesCodec::widestGap));
            }
            if (row.points() == 0) {
                none.add(new Call("unappend()", SeriesCodec::unappend));
                none.addAll(spans(0, 60000).subList(2, 4));
            }
            for (Call call : none) {
                check.refused(call.name() + ", " + row.name(), row.make(), call.does(), NONE);
            }
        }
    }

    private static void askingChangesNothing() {
        check.sentence("Promises 6 to 18 name no change");
        for (Rows.Row row : Rows.ALL) {
            List<Call> all = new ArrayList<>(plain());
            all.addAll(indexed(0));
            all.addAll(timed(640));
            all.addAll(spans(40, 640));
            for (Call call : all) {
                int first = call.does().applyAsInt(row.make().get());
                check.changesNothing(call.name() + ", " + row.name(), row.make(), call.does(), first);
            }
        }
    }

    // Refusals that follow each other leave no more behind than one alone.
    private static void manyRefusalsInARow() {
        check.sentence("Terms: a refused call changes nothing: many of them");
        for (Rows.Row row : Rows.ALL) {
            SeriesCodec x = row.make().get();
            for (Call call : alwaysBad()) {
                check.due(call.name() + ", " + row.name(), call.does().applyAsInt(x), BAD_ARG);
            }
            for (int k = 0; k < 32 && row.points() == 64; k++) {
                check.due("append, " + row.name(), x.append(0, k), FULL);
            }
            for (int k = 0; k < 32 && row.points() == 0; k++) {
                check.due("unappend, " + row.name(), x.unappend(), NONE);
            }
            for (int k = 0; k < 32 && row.points() < 16; k++) {
                check.due("dropOldest, " + row.name(), x.dropOldest(), NONE);
            }
            SeriesCodec without = row.make().get();
            check.holds("as without them, " + row.name(), Answers.now(x).equals(Answers.now(without)));
            check.holds("as without them, with later calls, " + row.name(),
                Answers.ofLaterCalls(x).equals(Answers.ofLaterCalls(without)));
        }
    }

    private static void neverThrows() {
        check.sentence("Terms: no call ever throws");
        List<Call> all = new ArrayList<>(plain());
        all.add(new Call("dropOldest()", SeriesCodec::dropOldest));
        all.add(new Call("unappend()", SeriesCodec::unappend));
        for (int a : ODD) {
            all.addAll(indexed(a));
            all.addAll(timed(a));
            for (int b : ODD) {
                all.addAll(spans(a, b));
                all.add(append(a, b));
                for (int c : new int[] {MIN, -1, 0, 65535, MAX}) {
                    for (int d : new int[] {MIN, -65535, 0, 65535, MAX}) {
                        all.add(steady(a, b, c, d));
                    }
                }
            }
        }
        for (Rows.Row row : Rows.ALL) {
            for (Call call : all) {
                check.holds(call.name() + " answers, " + row.name(), answers(row.make().get(), call));
            }
        }
    }

    // Whether the call, made twice, answers and leaves an object that answers.
    private static boolean answers(SeriesCodec x, Call call) {
        try {
            call.does().applyAsInt(x);
            call.does().applyAsInt(x);
            return x.points() >= 0 && x.points() <= 64 && x.packed() >= 0;
        } catch (RuntimeException | Error thrown) {
            return false;
        }
    }
}
