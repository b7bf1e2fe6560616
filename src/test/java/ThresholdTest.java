/** Promise 9. */
public final class ThresholdTest {
    private static final int[] ALL_REACH = {Integer.MIN_VALUE, Integer.MIN_VALUE + 1, -256, -1, 0};
    private static final int[] NONE_REACHES = {256, 257, 511, Integer.MAX_VALUE - 1, Integer.MAX_VALUE};

    public static void main(String[] args) {
        Check check = new Check();
        splitsAtTheBound(check);
        splitsAtEveryBound(check);
        takesEveryBoundBeyondTheValues(check);
        countsAllThatGet255(check);
        leavesTheSpareRaster(check);
        check.end();
    }

    private static void splitsAtTheBound(Check check) {
        BoxFilters x = new BoxFilters();
        x.set(0, 0, 99);
        x.set(0, 15, 100);
        x.set(15, 0, 101);
        check.due("threshold(100)", x.threshold(100), 2);
        check.raster("threshold(100)", x, (r, c) -> r == 0 && c == 15 || r == 15 && c == 0 ? 255 : 0);
    }

    /** "at least": every value once in the raster, so that each bound has one just below it and one at it. */
    private static void splitsAtEveryBound(Check check) {
        for (int bound = 0; bound <= 256; bound++) {
            int least = bound;
            BoxFilters x = new BoxFilters();
            Check.fill(x, (r, c) -> r * 16 + c);
            check.due("0 to 255, threshold(" + bound + ")", x.threshold(bound), 256 - bound);
            check.raster("0 to 255, threshold(" + bound + ")", x, (r, c) -> r * 16 + c >= least ? 255 : 0);
        }
    }

    private static void takesEveryBoundBeyondTheValues(Check check) {
        for (Picture raster : Picture.values()) {
            for (int bound : ALL_REACH) {
                turns(check, raster, bound, Picture.FULL, 256);
            }
            for (int bound : NONE_REACHES) {
                turns(check, raster, bound, Picture.ZEROS, 0);
            }
        }
        turns(check, Picture.ZEROS, 1, Picture.ZEROS, 0);
        turns(check, Picture.FULL, 1, Picture.FULL, 256);
        turns(check, Picture.FULL, 255, Picture.FULL, 256);
    }

    private static void turns(Check check, Picture raster, int bound, Picture want, int bright) {
        String call = "threshold(" + bound + ")";
        check.bothRasters(
            call, raster, Picture.OTHER,
            x -> check.due(raster + ", " + call, x.threshold(bound), bright), want, Picture.OTHER);
    }

    /** Not only those that have another value then. */
    private static void countsAllThatGet255(Check check) {
        BoxFilters x = new BoxFilters();
        check.due("threshold(1) of zeros", x.threshold(1), 0);
        check.due("threshold(0) of zeros", x.threshold(0), 256);
        check.due("threshold(255) of 255s", x.threshold(255), 256);
        check.due("threshold(256) of 255s", x.threshold(256), 0);
        check.due("sum() after that", x.sum(), 0);
    }

    private static void leavesTheSpareRaster(Check check) {
        for (int bound : new int[] {1, 127, 128, 254, 255}) {
            Model model = Model.busy();
            int bright = model.threshold(bound);
            String call = "threshold(" + bound + ")";
            check.bothRasters(
                call, x -> check.due(call, x.threshold(bound), bright), (r, c) -> model.raster[r][c], Picture.OTHER);
        }
    }
}
