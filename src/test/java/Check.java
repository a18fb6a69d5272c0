import java.util.List;
import java.util.function.Supplier;
import java.util.function.ToIntFunction;

/** Compares answers with those that are due, and ends a test class with 1 if one was wrong. */
final class Check {
    private int wrong = 0;
    private int asked = 0;
    private String sentence = "";

    /** Names the sentence of the document that the answers from here on belong to. */
    void sentence(String words) {
        sentence = "[" + words + "] ";
    }

    /** Runs the tests in turn; one that a call throws out of is wrong, and the next ones go on. */
    void run(Runnable... tests) {
        for (Runnable test : tests) {
            try {
                test.run();
            } catch (RuntimeException | Error thrown) {
                wrong("threw " + thrown);
            }
        }
    }

    void due(String call, int got, int want) {
        asked++;
        if (got != want) {
            wrong(call + " answered " + got + ", due is " + want);
        }
    }

    void holds(String what, boolean is) {
        asked++;
        if (!is) {
            wrong("does not hold: " + what);
        }
    }

    void refused(String call, Supplier<SeriesCodec> row, ToIntFunction<SeriesCodec> does, int code) {
        changesNothing(call, row, does, code);
    }

    /** The call has this answer, and what the other calls answer is the same before and after it. */
    void changesNothing(String call, Supplier<SeriesCodec> row, ToIntFunction<SeriesCodec> does, int want) {
        SeriesCodec x = row.get();
        List<String> before = Answers.now(x);
        due(call, does.applyAsInt(x), want);
        same("after " + call, Answers.now(x), before);

        // Answers alone would not show a change that only a later change brings to light.
        SeriesCodec y = row.get();
        does.applyAsInt(y);
        List<String> without = Answers.ofLaterCalls(row.get());
        same("some calls after " + call, Answers.ofLaterCalls(y), without);
    }

    private void same(String when, List<String> got, List<String> want) {
        for (int k = 0; k < want.size(); k++) {
            asked++;
            if (!got.get(k).equals(want.get(k))) {
                wrong(when + ": " + got.get(k) + ", but without it " + want.get(k));
            }
        }
    }

    private void wrong(String what) {
        wrong++;
        System.out.println(sentence + what);
    }

    int wrong() {
        return wrong;
    }

    void finish() {
        System.out.println(asked + " answers, " + wrong + " wrong");
        if (wrong != 0) {
            System.exit(1);
        }
    }
}
