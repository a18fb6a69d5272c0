/** Promises 17 and 18: what is told of points and their neighbours. */
public final class NeighboursTest {
    private static final int NONE = SeriesCodec.NONE;

    private static final Check check = new Check();

    public static void main(String[] args) {
        rises();
        risesAfterPointsWent();
        widestGap();
        widestGapAfterPointsWent();
        check.finish();
    }

    private static void rises() {
        SeriesCodec x = new SeriesCodec();
        check.due("rises of none", x.rises(), 0);
        x.append(0, 65535);
        check.due("rises of one", x.rises(), 0);
        x.append(0, 65535);
        check.due("rises with the same", x.rises(), 0);
        x.append(0, 0);
        check.due("rises with a fall", x.rises(), 0);
        x.append(0, 1);
        check.due("rises with a rise", x.rises(), 1);
        x.append(0, 65535);
        check.due("rises with two", x.rises(), 2);
        SeriesCodec y = new SeriesCodec();
        y.steady(64, 1, 0, 1);
        check.due("rises of 64", y.rises(), 63);
        SeriesCodec z = new SeriesCodec();
        z.steady(64, 1, 63, -1);
        check.due("rises of falls", z.rises(), 0);
    }

    private static void risesAfterPointsWent() {
        SeriesCodec x = new SeriesCodec();
        x.steady(20, 1, 0, 1);
        check.due("rises of 20", x.rises(), 19);
        x.dropOldest();
        check.due("rises of 4 left", x.rises(), 3);
        x.unappend();
        check.due("rises of 3 left", x.rises(), 2);
    }

    private static void widestGap() {
        SeriesCodec x = new SeriesCodec();
        check.due("widestGap of none", x.widestGap(), NONE);
        x.append(500, 0);
        check.due("widestGap of one", x.widestGap(), NONE);
        x.append(0, 0);
        check.due("widestGap at one time", x.widestGap(), 0);
        x.append(7, 0);
        check.due("widestGap 7", x.widestGap(), 7);
        x.append(3, 0);
        check.due("widestGap still 7", x.widestGap(), 7);
        x.append(8, 0);
        check.due("widestGap 8", x.widestGap(), 8);
        SeriesCodec y = new SeriesCodec();
        y.append(0, 0);
        y.append(60000, 0);
        check.due("widestGap 60000", y.widestGap(), 60000);
    }

    private static void widestGapAfterPointsWent() {
        SeriesCodec x = new SeriesCodec();
        x.steady(16, 100, 0, 0);
        x.append(1000, 0);
        x.append(20, 0);
        check.due("widestGap over the border", x.widestGap(), 1000);
        x.dropOldest();
        check.due("widestGap behind the border", x.widestGap(), 20);
        x.append(30, 0);
        check.due("widestGap 30", x.widestGap(), 30);
        x.unappend();
        check.due("widestGap 20 again", x.widestGap(), 20);
        x.unappend();
        check.due("widestGap of one left", x.widestGap(), NONE);
    }
}
