/** Long mixed runs of calls, always the same ones, each answer compared with the model's. */
public final class ModelTest {
    private static final int RUNS = 3000;
    // With the 137 of the sweep at the end a run has the 512 calls that are promised.
    private static final int CALLS = 375;

    private static final int[] ODD = {
        Integer.MIN_VALUE, -65536, -65535, -2, -1, 0, 1, 15, 16, 17, 63, 64, 65,
        59999, 60000, 60001, 65535, 65536, 1 << 28, Integer.MAX_VALUE,
    };

    private static final Check check = new Check();
    private static long seed;

    private final SeriesCodec real = new SeriesCodec();
    private final Model model = new Model();
    private final int widest;
    private final String run;

    private ModelTest(int number) {
        run = "run " + number + ": ";
        seed = number;
        int[] scales = {0, 3, 12, 70, 150, 900, 4000};
        widest = scales[number % scales.length];
    }

    public static void main(String[] args) {
        for (int number = 0; number < RUNS && check.wrong() == 0; number++) {
            ModelTest test = new ModelTest(number);
            for (int k = 0; k < CALLS; k++) {
                test.oneCall();
            }
            test.sweep();
        }
        check.finish();
    }

    // A fixed row of numbers: the same in every run of the tests.
    private static int below(int bound) {
        seed = seed * 6364136223846793005L + 1442695040888963407L;
        return (int) ((seed >>> 33) % bound);
    }

    private static int odd() {
        return ODD[below(ODD.length)];
    }

    private int gap() {
        return below(30) == 0 ? odd() : below(widest + 1);
    }

    private int value() {
        int last = Math.max(0, model.value(model.points() - 1));
        switch (below(12)) {
            case 0: return odd();
            case 1: case 2: return last;
            case 3: return below(65536);
            default: return last ^ ((1 + below(15)) << below(13));
        }
    }

    private int time() {
        if (below(20) == 0) {
            return odd();
        }
        int some = model.points() == 0 ? 0 : model.time(below(model.points()));
        return some - 1 + below(3);
    }

    private void due(String call, int got, int want) {
        check.due(run + call, got, want);
    }

    private void oneCall() {
        int kind = below(100);
        if (kind < 40) {
            append();
        } else if (kind < 46) {
            steady();
        } else if (kind < 50) {
            due("dropOldest()", real.dropOldest(), model.dropOldest());
        } else if (kind < 60) {
            due("unappend()", real.unappend(), model.unappend());
        } else {
            ask(kind);
        }
    }

    private void append() {
        int gap = gap();
        int value = value();
        due("append(" + gap + ", " + value + ")", real.append(gap, value), model.append(gap, value));
    }

    private void steady() {
        int many = below(8) == 0 ? odd() : below(20);
        int gap = gap();
        int value = value();
        int step = below(4) == 0 ? odd() : below(131071) - 65535;
        due("steady(" + many + ", " + gap + ", " + value + ", " + step + ")",
            real.steady(many, gap, value, step), model.steady(many, gap, value, step));
    }

    private void ask(int kind) {
        int a = time();
        int b = time();
        int i = below(8) == 0 ? odd() : below(66);
        int c = below(8) == 0 ? odd() : below(5);
        switch (kind % 14) {
            case 0: due("points()", real.points(), model.points()); break;
            case 1: due("time(" + i + ")", real.time(i), model.time(i)); break;
            case 2: due("value(" + i + ")", real.value(i), model.value(i)); break;
            case 3: due("packed()", real.packed(), model.packed()); break;
            case 4: due("firstFrom(" + a + ")", real.firstFrom(a), model.firstFrom(a)); break;
            case 5: due("valueAt(" + a + ")", real.valueAt(a), model.valueAt(a)); break;
            case 6: due("rises()", real.rises(), model.rises()); break;
            case 7: due("widestGap()", real.widestGap(), model.widestGap()); break;
            case 8: due("count(" + a + ", " + b + ")", real.count(a, b), model.count(a, b)); break;
            case 9: due("sum(" + a + ", " + b + ")", real.sum(a, b), model.sum(a, b)); break;
            case 10: due("greatest(" + a + ", " + b + ")", real.greatest(a, b), model.greatest(a, b)); break;
            case 11: due("least(" + a + ", " + b + ")", real.least(a, b), model.least(a, b)); break;
            default: due("size(" + c + ")", real.size(c), model.size(c)); break;
        }
    }

    private void sweep() {
        due("points() at the end", real.points(), model.points());
        for (int i = 0; i <= 64; i++) {
            due("time(" + i + ") at the end", real.time(i), model.time(i));
            due("value(" + i + ") at the end", real.value(i), model.value(i));
        }
        for (int c = 0; c <= 4; c++) {
            due("size(" + c + ") at the end", real.size(c), model.size(c));
        }
        due("packed() at the end", real.packed(), model.packed());
    }
}
