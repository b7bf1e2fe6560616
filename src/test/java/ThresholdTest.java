/** Promise 9. */
public final class ThresholdTest {
    private static final int[] BOUNDS = {
        Integer.MIN_VALUE, -256, -1, 0, 1, 2, 127, 128, 254, 255, 256, 257, Integer.MAX_VALUE
    };

    public static void main(String[] args) {
        Check check = new Check();
        splitsAtTheBound(check);
        countsAllThatGet255(check);
        for (int bound : BOUNDS) {
            allPixels(check, bound);
        }
        check.end();
    }

    private static void splitsAtTheBound(Check check) {
        BoxFilters x = new BoxFilters();
        x.set(0, 0, 99);
        x.set(0, 15, 100);
        x.set(15, 0, 101);
        check.due("threshold(100)", x.threshold(100), 2);
        check.raster("threshold(100)", x, (r, c) -> r == 0 && c == 15 || r == 15 && c == 0 ? 255 : 0);
    }

    /** Not only those that have another value then. */
    private static void countsAllThatGet255(Check check) {
        BoxFilters x = new BoxFilters();
        check.due("threshold(1) of zeros", x.threshold(1), 0);
        check.due("threshold(0) of zeros", x.threshold(0), 256);
        check.due("threshold(255) of 255s", x.threshold(255), 256);
        check.due("threshold(256) of 255s", x.threshold(256), 0);
        check.due("sum() after that", x.sum(), 0);
    }

    private static void allPixels(Check check, int bound) {
        Model model = Model.busy();
        int bright = model.threshold(bound);
        String call = "threshold(" + bound + ")";
        check.bothRasters(
            call, x -> check.due(call, x.threshold(bound), bright), (r, c) -> model.raster[r][c], Check.BUSY_SPARE);
    }
}
