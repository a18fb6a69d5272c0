import java.util.ArrayList;
import java.util.List;

/** What the calls answer on an object, in words, for comparing one state with another. */
final class Answers {
    private static final int[] TIMES = {0, 100, 5000, 60000};
    private static final int[][] SPANS = {{0, 60000}, {100, 5000}};

    private Answers() {
    }

    /** Asks all there is to ask, in few enough calls to be made twice within the 512. */
    static List<String> now(SeriesCodec x) {
        List<String> all = new ArrayList<>();
        all.add("points() = " + x.points());
        for (int i = -1; i <= 64; i++) {
            all.add("time(" + i + ") = " + x.time(i));
            all.add("value(" + i + ") = " + x.value(i));
        }
        for (int c = -1; c <= 4; c++) {
            all.add("size(" + c + ") = " + x.size(c));
        }
        all.add("packed() = " + x.packed());
        all.add("rises() = " + x.rises());
        all.add("widestGap() = " + x.widestGap());
        for (int t : TIMES) {
            all.add("firstFrom(" + t + ") = " + x.firstFrom(t));
            all.add("valueAt(" + t + ") = " + x.valueAt(t));
        }
        for (int[] s : SPANS) {
            String span = "(" + s[0] + ", " + s[1] + ") = ";
            all.add("count" + span + x.count(s[0], s[1]));
            all.add("sum" + span + x.sum(s[0], s[1]));
            all.add("greatest" + span + x.greatest(s[0], s[1]));
            all.add("least" + span + x.least(s[0], s[1]));
        }
        return all;
    }

    /** Makes each of the changing calls, and then asks all there is to ask. */
    static List<String> ofLaterCalls(SeriesCodec x) {
        List<String> all = new ArrayList<>();
        all.add("append(1, 5) = " + x.append(1, 5));
        all.add("unappend() = " + x.unappend());
        all.add("unappend() = " + x.unappend());
        all.add("append(0, 77) = " + x.append(0, 77));
        all.add("steady(2, 3, 65534, 1) = " + x.steady(2, 3, 65534, 1));
        all.add("dropOldest() = " + x.dropOldest());
        all.add("append(2, 9) = " + x.append(2, 9));
        all.addAll(now(x));
        return all;
    }
}
