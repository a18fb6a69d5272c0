import java.util.ArrayList;
import java.util.Arrays;
import java.util.List;

/** The document told a second time, by other means, for ModelTest to compare with. */
final class Model {
    private record Point(int time, int value) {}

    private final List<Point> row = new ArrayList<>();

    int append(int gap, int value) {
        long time = (row.isEmpty() ? 0L : last().time()) + gap;
        if (gap < 0 || gap > 60000 || time > 60000 || value < 0 || value > 65535) {
            return -1;
        }
        if (row.size() == 64) {
            return -2;
        }
        row.add(new Point((int) time, value));
        return row.size() - 1;
    }

    int steady(int many, int gap, int value, int step) {
        if (many < 0 || many > 64 || gap < 0 || gap > 60000) {
            return -1;
        }
        long start = row.isEmpty() ? 0L : last().time();
        if (start + (long) many * gap > 60000) {
            return -1;
        }
        if (value < 0 || value > 65535 || step < -65535 || step > 65535) {
            return -1;
        }
        if (row.size() + many > 64) {
            return -2;
        }
        for (int k = 1; k <= many; k++) {
            int v = (int) Math.floorMod(value + (k - 1L) * step, 65536L);
            row.add(new Point((int) (start + (long) k * gap), v));
        }
        return row.size();
    }

    int dropOldest() {
        if (row.size() < 16) {
            return -4;
        }
        row.subList(0, 16).clear();
        return row.size();
    }

    int unappend() {
        return row.isEmpty() ? -4 : row.remove(row.size() - 1).value();
    }

    int points() {
        return row.size();
    }

    int time(int i) {
        return i < 0 || i >= row.size() ? -4 : row.get(i).time();
    }

    int value(int i) {
        return i < 0 || i >= row.size() ? -4 : row.get(i).value();
    }

    int size(int c) {
        if (c < 0 || c > 3 || 16 * c >= row.size()) {
            return -4;
        }
        List<Point> chunk = row.subList(16 * c, Math.min(16 * c + 16, row.size()));
        return 32 + timeSizes(chunk) + valueSizes(chunk);
    }

    private static int timeSizes(List<Point> chunk) {
        int total = 0;
        for (int k = 1; k < chunk.size(); k++) {
            int before = k == 1 ? 0 : chunk.get(k - 1).time() - chunk.get(k - 2).time();
            int d = chunk.get(k).time() - chunk.get(k - 1).time() - before;
            total += d == 0 ? 1 : -7 <= d && d <= 8 ? 6 : -63 <= d && d <= 64 ? 10 : 21;
        }
        return total;
    }

    private static int valueSizes(List<Point> chunk) {
        int total = 0;
        int[] window = null;
        for (int k = 1; k < chunk.size(); k++) {
            int x = chunk.get(k).value() ^ chunk.get(k - 1).value();
            String digits = Integer.toBinaryString(65536 + x).substring(1);
            int l = digits.indexOf('1');
            int r = 15 - digits.lastIndexOf('1');
            if (x == 0) {
                total += 1;
            } else if (window != null && l >= window[0] && r >= window[1]) {
                total += 2 + 16 - window[0] - window[1];
            } else {
                total += 2 + 4 + 4 + 16 - l - r;
                window = new int[] {l, r};
            }
        }
        return total;
    }

    int packed() {
        int total = 0;
        for (int c = 0; c < 4; c++) {
            total += Math.max(0, size(c));
        }
        return total;
    }

    int firstFrom(int t) {
        return row.stream().filter(p -> p.time() >= t).findFirst().map(row::indexOf).orElse(-4);
    }

    int count(int from, int to) {
        return isSpan(from, to) ? in(from, to).length : -1;
    }

    int sum(int from, int to) {
        return isSpan(from, to) ? Arrays.stream(in(from, to)).sum() : -1;
    }

    int greatest(int from, int to) {
        return isSpan(from, to) ? Arrays.stream(in(from, to)).max().orElse(-4) : -1;
    }

    int least(int from, int to) {
        return isSpan(from, to) ? Arrays.stream(in(from, to)).min().orElse(-4) : -1;
    }

    int valueAt(int t) {
        return row.stream().filter(p -> p.time() <= t).reduce((a, b) -> b).map(Point::value).orElse(-4);
    }

    int rises() {
        int found = 0;
        for (int i = 0; i + 1 < row.size(); i++) {
            found += value(i + 1) > value(i) ? 1 : 0;
        }
        return found;
    }

    int widestGap() {
        int widest = -4;
        for (int i = 0; i + 1 < row.size(); i++) {
            widest = Math.max(widest, time(i + 1) - time(i));
        }
        return widest;
    }

    private Point last() {
        return row.get(row.size() - 1);
    }

    private static boolean isSpan(int from, int to) {
        return 0 <= from && from <= to && to <= 60000;
    }

    private int[] in(int from, int to) {
        return row.stream().filter(p -> from <= p.time() && p.time() <= to).mapToInt(Point::value).toArray();
    }
}
