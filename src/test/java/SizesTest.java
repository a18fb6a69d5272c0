/** Promises 9 and 10: the sizes of the chunks and their sum. */
public final class SizesTest {
    private static final int NONE = SeriesCodec.NONE;

    private static final Check check = new Check();

    public static void main(String[] args) {
        chunksThatAreNot();
        timeSizesOfTheSecondPoint();
        timeSizesOfTheThirdPoint();
        valueSizesWithoutWindow();
        valueSizesWithWindow();
        sameValueKeepsTheWindow();
        chunkBeginsAnew();
        unappendBringsTheWindowBack();
        packedSums();
        check.finish();
    }

    private static void chunksThatAreNot() {
        SeriesCodec x = new SeriesCodec();
        check.due("size 0 of none", x.size(0), NONE);
        check.due("packed of none", x.packed(), 0);
        x.steady(16, 0, 0, 0);
        check.due("size 0 of 16", x.size(0), 32 + 15 * 2);
        check.due("size 1 of 16", x.size(1), NONE);
        x.append(0, 0);
        check.due("size 1 of 17", x.size(1), 32);
        check.due("size 2 of 17", x.size(2), NONE);
        x.steady(47, 0, 0, 0);
        check.due("size 3 of 64", x.size(3), 62);
        // The last three wrap to 0 when taken times 16.
        int[] outside = {-1, 4, 5, 64, Integer.MIN_VALUE, Integer.MAX_VALUE, 1 << 28, -(1 << 28), 1 << 29};
        for (int c : outside) {
            check.due("size " + c, x.size(c), NONE);
        }
    }

    private static void timeSizesOfTheSecondPoint() {
        int[][] gapAndSize = {
            {0, 1}, {1, 6}, {8, 6}, {9, 10}, {64, 10}, {65, 21}, {60000, 21},
        };
        for (int[] g : gapAndSize) {
            // The first point's own gap must play no part.
            for (int first = 0; first <= 60000 - g[0] && first <= 100; first += 50) {
                SeriesCodec x = new SeriesCodec();
                x.append(first, 7);
                check.due("size of one", x.size(0), 32);
                x.append(g[0], 7);
                check.due("size with gap " + g[0], x.size(0), 32 + g[1] + 1);
            }
        }
    }

    private static void timeSizesOfTheThirdPoint() {
        int[][] dAndSize = {
            {0, 1}, {1, 6}, {-1, 6}, {8, 6}, {-7, 6}, {9, 10}, {-8, 10},
            {64, 10}, {-63, 10}, {65, 21}, {-64, 21}, {1000, 21}, {-1000, 21},
        };
        for (int[] d : dAndSize) {
            SeriesCodec x = new SeriesCodec();
            x.append(0, 7);
            x.append(1000, 7);
            x.append(1000 + d[0], 7);
            check.due("size with D " + d[0], x.size(0), 32 + 21 + 1 + d[1] + 1);
        }
    }

    // Sizes of the values alone: at one time, every point behind the first adds 1 for it.
    private static void values(int[] values, int... sizes) {
        SeriesCodec x = new SeriesCodec();
        x.append(5, values[0]);
        int total = 32;
        for (int i = 1; i < values.length; i++) {
            x.append(0, values[i]);
            total += 1 + sizes[i - 1];
            check.due("size after value " + values[i] + " at " + i, x.size(0), total);
        }
    }

    private static void valueSizesWithoutWindow() {
        values(new int[] {0, 0}, 1);
        values(new int[] {65535, 65535}, 1);
        values(new int[] {0, 1}, 11);
        values(new int[] {0, 32768}, 11);
        values(new int[] {0, 65535}, 26);
        values(new int[] {0, 32769}, 26);
        values(new int[] {65535, 65535 ^ 0x0180}, 12);
        values(new int[] {0, 0x0FF0}, 18);
        values(new int[] {0, 0x7FFE}, 24);
    }

    private static void valueSizesWithWindow() {
        // The window (4, 4) of 0x0FF0: what lies inside costs 10.
        values(new int[] {0, 0x0FF0, 0x0FF0 ^ 0x0FF0}, 18, 10);
        values(new int[] {0, 0x0FF0, 0x0FF0 ^ 0x0010}, 18, 10);
        values(new int[] {0, 0x0FF0, 0x0FF0 ^ 0x0800}, 18, 10);
        // One digit beyond either side makes a new window.
        values(new int[] {0, 0x0FF0, 0x0FF0 ^ 0x0008}, 18, 11);
        values(new int[] {0, 0x0FF0, 0x0FF0 ^ 0x1000}, 18, 11);
        values(new int[] {0, 0x0FF0, 0x0FF0 ^ 0x1010}, 18, 19);
        // A fit leaves the window as it was; a miss narrows it.
        values(new int[] {0, 0x0FF0, 0x0FE0, 0x07E0}, 18, 10, 10);
        values(new int[] {0, 0x0FF0, 0x0FF1, 0x0FF0, 0x0FE0}, 18, 11, 3, 11);
        // The window (0, 0) takes everything.
        values(new int[] {0, 65535, 65534, 0}, 26, 18, 18);
    }

    private static void sameValueKeepsTheWindow() {
        values(new int[] {0, 0x0FF0, 0x0FF0, 0x0FF0, 0}, 18, 1, 1, 10);
        values(new int[] {0, 0, 1, 1, 0}, 1, 11, 1, 3);
    }

    private static void chunkBeginsAnew() {
        SeriesCodec x = new SeriesCodec();
        x.append(0, 0);
        x.append(0, 65535);
        x.steady(14, 0, 65535, 0);
        int first = 32 + 1 + 26 + 14 * 2;
        check.due("first chunk", x.size(0), first);
        // Neither the gap nor the change over the border counts.
        x.append(1000, 0);
        check.due("second chunk of one", x.size(1), 32);
        // The gap before counts as 0, and the window (0, 0) is gone.
        x.append(1000, 1);
        check.due("second chunk of two", x.size(1), 32 + 21 + 11);
        x.append(1000, 0);
        check.due("second chunk of three", x.size(1), 32 + 21 + 11 + 1 + 3);
        check.due("first chunk still", x.size(0), first);
        check.due("dropOldest", x.dropOldest(), 3);
        check.due("its size stays", x.size(0), 32 + 21 + 11 + 1 + 3);
        check.due("no second chunk", x.size(1), NONE);
    }

    private static void unappendBringsTheWindowBack() {
        SeriesCodec x = new SeriesCodec();
        x.append(0, 0);
        x.append(10, 0x0FF0);
        check.due("size of two", x.size(0), 32 + 10 + 18);
        x.append(90, 0x0FF1);
        check.due("size of three", x.size(0), 32 + 10 + 18 + 21 + 11);
        check.due("unappend", x.unappend(), 0x0FF1);
        check.due("size of two again", x.size(0), 32 + 10 + 18);
        x.append(10, 0x0FE0);
        check.due("the window and the gap from before", x.size(0), 32 + 10 + 18 + 1 + 10);
    }

    private static void packedSums() {
        SeriesCodec x = new SeriesCodec();
        x.append(0, 0);
        check.due("packed of one", x.packed(), 32);
        x.steady(15, 0, 0, 0);
        check.due("packed of 16", x.packed(), 62);
        x.append(0, 0);
        check.due("packed of 17", x.packed(), 94);
        x.steady(47, 0, 0, 0);
        check.due("packed of 64", x.packed(), 248);
        x.unappend();
        check.due("packed of 63", x.packed(), 246);
        x.dropOldest();
        check.due("packed of 47", x.packed(), 184);
        SeriesCodec y = new SeriesCodec();
        y.steady(64, 900, 65535, 1);
        check.due("packed is the sum", y.packed(), y.size(0) + y.size(1) + y.size(2) + y.size(3));
    }
}
