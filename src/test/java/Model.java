import java.util.Arrays;
import java.util.IntSummaryStatistics;
import java.util.function.ToIntFunction;
import java.util.stream.IntStream;

/** The document's terms once more, word for word and without regard to speed, to hold the class against. */
final class Model {
    int[][] raster = new int[16][16];
    int[][] spare = new int[16][16];

    /** The state of Check.made(raster, spare). */
    static Model made(Picture raster, Picture spare) {
        Model model = new Model();
        for (int i = 0; i < 256; i++) {
            model.raster[i / 16][i % 16] = raster.applyAsInt(i / 16, i % 16);
            model.spare[i / 16][i % 16] = spare.applyAsInt(i / 16, i % 16);
        }
        return model;
    }

    /** The state of Check.busy(). */
    static Model busy() {
        return made(Picture.BUSY, Picture.OTHER);
    }

    static int[][] copyOf(int[][] from) {
        return Arrays.stream(from).map(int[]::clone).toArray(int[][]::new);
    }

    static int[][] dilation(int[][] from, int w, int h) {
        return overWindows(from, w, h, IntSummaryStatistics::getMax);
    }

    static int[][] erosion(int[][] from, int w, int h) {
        return overWindows(from, w, h, IntSummaryStatistics::getMin);
    }

    static int[][] mean(int[][] from, int w, int h) {
        return overWindows(from, w, h, values -> (int) (values.getSum() / values.getCount()));
    }

    static int[][] opening(int[][] from, int w, int h) {
        return dilation(erosion(from, w, h), w, h);
    }

    static int[][] closing(int[][] from, int w, int h) {
        return erosion(dilation(from, w, h), w, h);
    }

    private static int[][] overWindows(int[][] from, int w, int h, ToIntFunction<IntSummaryStatistics> value) {
        int[][] to = new int[16][16];
        for (int r = 0; r < 16; r++) {
            for (int c = 0; c < 16; c++) {
                to[r][c] = value.applyAsInt(window(from, r, c, w, h));
            }
        }
        return to;
    }

    private static IntSummaryStatistics window(int[][] from, int row, int column, int w, int h) {
        return IntStream.range(0, 256)
            .filter(i -> Math.abs(i / 16 - row) <= h && Math.abs(i % 16 - column) <= w)
            .map(i -> from[i / 16][i % 16])
            .summaryStatistics();
    }

    /** Makes the raster another one, and tells how many pixels have another value then. */
    int become(int[][] next) {
        int[][] old = raster;
        raster = copyOf(next);
        return (int) IntStream.range(0, 256).filter(i -> old[i / 16][i % 16] != next[i / 16][i % 16]).count();
    }

    int set(int row, int column, int value) {
        if (row < 0 || row > 15 || column < 0 || column > 15) {
            return -1;
        }
        if (value < 0 || value > 255) {
            return -2;
        }
        int old = raster[row][column];
        raster[row][column] = value;
        return old;
    }

    void pattern(int a, int b) {
        for (int i = 0; i < 256; i++) {
            long r = i / 16;
            long c = i % 16;
            raster[i / 16][i % 16] = (int) Math.floorMod(r * a + c * b + r * c, 256L);
        }
    }

    int threshold(int bound) {
        for (int[] row : raster) {
            Arrays.setAll(row, c -> row[c] >= bound ? 255 : 0);
        }
        return sum() / 255;
    }

    void exchange() {
        int[][] old = raster;
        raster = spare;
        spare = old;
    }

    void keep() {
        spare = copyOf(raster);
    }

    int sum() {
        return Arrays.stream(raster).flatMapToInt(Arrays::stream).sum();
    }

    int equal() {
        return (int) IntStream.range(0, 256).filter(i -> raster[i / 16][i % 16] == spare[i / 16][i % 16]).count();
    }

    int above() {
        return (int) IntStream.range(0, 256).filter(i -> raster[i / 16][i % 16] > spare[i / 16][i % 16]).count();
    }

    /** Every pixel above 0 takes the least number among its neighbours until none changes: one number a patch is left. */
    int patches() {
        int[] number = IntStream.range(0, 256).map(i -> raster[i / 16][i % 16] > 0 ? i : -1).toArray();
        boolean changed = true;
        while (changed) {
            changed = false;
            for (int i = 0; i < 256; i++) {
                boolean below = i + 16 < 256 && join(number, i, i + 16);
                boolean beside = i % 16 < 15 && join(number, i, i + 1);
                changed = changed || below || beside;
            }
        }
        return (int) Arrays.stream(number).filter(n -> n >= 0).distinct().count();
    }

    private static boolean join(int[] number, int i, int j) {
        if (number[i] < 0 || number[j] < 0 || number[i] == number[j]) {
            return false;
        }
        int least = Math.min(number[i], number[j]);
        number[i] = least;
        number[j] = least;
        return true;
    }
}
