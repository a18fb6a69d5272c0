import java.util.List;
import java.util.function.Supplier;

/** Objects with points to begin a test with, made anew each time. */
final class Rows {
    /** A way to make an object, and how many points it then has. */
    record Row(String name, int points, Supplier<SeriesCodec> make) {}

    /** Rows at and beside each number of points that the document names. */
    static final List<Row> ALL = List.of(
        new Row("new", 0, SeriesCodec::new),
        new Row("emptied by dropOldest", 0, Rows::emptiedByDropOldest),
        new Row("emptied by unappend", 0, Rows::emptiedByUnappend),
        new Row("one point", 1, () -> one(100, 7)),
        new Row("one point at the last time", 1, () -> one(60000, 65535)),
        new Row("two points", 2, () -> steady(2, 100, 9, -4)),
        new Row("15 points", 15, () -> steady(15, 40, 5, 3)),
        new Row("16 points", 16, () -> steady(16, 40, 5, 3)),
        new Row("17 points", 17, () -> steady(17, 40, 5, 3)),
        new Row("mixed", 29, Rows::mixed),
        new Row("63 points", 63, () -> steady(63, 900, 65000, 11)),
        new Row("64 points", 64, () -> steady(64, 900, 65000, 11)),
        new Row("64 points up to the last time", 64, Rows::fullUpToTheLastTime));

    private Rows() {
    }

    static SeriesCodec one(int time, int value) {
        SeriesCodec x = new SeriesCodec();
        x.append(time, value);
        return x;
    }

    static SeriesCodec steady(int many, int gap, int value, int step) {
        SeriesCodec x = new SeriesCodec();
        x.steady(many, gap, value, step);
        return x;
    }

    /** Points from pairs of a gap and a value. */
    static SeriesCodec of(int... gapsAndValues) {
        SeriesCodec x = new SeriesCodec();
        for (int k = 0; k + 1 < gapsAndValues.length; k += 2) {
            x.append(gapsAndValues[k], gapsAndValues[k + 1]);
        }
        return x;
    }

    static SeriesCodec emptiedByDropOldest() {
        SeriesCodec x = steady(16, 50, 1000, 1);
        x.dropOldest();
        return x;
    }

    static SeriesCodec emptiedByUnappend() {
        SeriesCodec x = one(60000, 3);
        x.unappend();
        return x;
    }

    static SeriesCodec fullUpToTheLastTime() {
        SeriesCodec x = one(969, 40);
        x.steady(63, 937, 50, -7);
        return x;
    }

    private static SeriesCodec mixed() {
        SeriesCodec x = steady(30, 7, 65000, 100);
        x.dropOldest();
        x.unappend();
        int[] gaps = {0, 1, 9, 70, 3, 3, 600, 0};
        for (int k = 0; k < 16; k++) {
            x.append(gaps[k % gaps.length], (k * 12289) & 65535);
        }
        return x;
    }
}
