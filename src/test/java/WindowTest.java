import java.util.function.IntBinaryOperator;

/**
 * "all pixels of the raster whose column is at most w away and whose row is at most h away (so it is smaller at the
 * edges)": one pixel stands out, in each corner, at each side and in the middle, and every size is tried on it.
 */
public final class WindowTest {
    private static final int[] PLACES = {0, 1, 7, 8, 14, 15};

    private final FilterCheck dilate;
    private final FilterCheck erode;
    private final FilterCheck mean;

    private WindowTest(Check check) {
        dilate = new FilterCheck(check, "window of dilate", BoxFilters::dilate);
        erode = new FilterCheck(check, "window of erode", BoxFilters::erode);
        mean = new FilterCheck(check, "window of mean", BoxFilters::mean);
    }

    public static void main(String[] args) {
        Check check = new Check();
        WindowTest windows = new WindowTest(check);
        for (int row : PLACES) {
            for (int column : PLACES) {
                windows.haveAllSizesAround(row, column);
            }
        }
        greatestWindows(check);
        check.end();
    }

    private void haveAllSizesAround(int row, int column) {
        for (int w = 0; w <= 7; w++) {
            for (int h = 0; h <= 7; h++) {
                dilateAndErodeReach(row, column, w, h);
                meanDivides(row, column, w, h);
            }
        }
    }

    private void dilateAndErodeReach(int row, int column, int w, int h) {
        int changed = along(row, h) * along(column, w) - 1;
        dilate.turns(x -> x.set(row, column, 9), w, h, (r, c) -> isNear(r, c, row, column, w, h) ? 9 : 0, changed);
        erode.turns(x -> hole(x, row, column), w, h, (r, c) -> isNear(r, c, row, column, w, h) ? 9 : 255, changed);
    }

    private static void hole(BoxFilters x, int row, int column) {
        x.threshold(0);
        x.set(row, column, 9);
    }

    private static boolean isNear(int r, int c, int row, int column, int w, int h) {
        return Math.abs(r - row) <= h && Math.abs(c - column) <= w;
    }

    /** How many of 0 to 15 are at most half away. */
    private static int along(int centre, int half) {
        int count = 0;
        for (int i = 0; i <= 15; i++) {
            count += Math.abs(i - centre) <= half ? 1 : 0;
        }
        return count;
    }

    /** No window has more than 225 pixels, so 225 divided by any of their counts is above 0 and shows. */
    private void meanDivides(int row, int column, int w, int h) {
        IntBinaryOperator want =
            (r, c) -> isNear(r, c, row, column, w, h) ? 225 / (along(r, h) * along(c, w)) : 0;
        int changed = along(row, h) * along(column, w) - (w + h == 0 ? 1 : 0);
        mean.turns(x -> x.set(row, column, 225), w, h, want, changed);
    }

    /** The counts once more as plain numbers: windows of (7, 7) have 64, 120 or 225 pixels where they differ most. */
    private static void greatestWindows(Check check) {
        hasPixels(check, 0, 0, 64);
        hasPixels(check, 0, 15, 64);
        hasPixels(check, 15, 0, 64);
        hasPixels(check, 15, 15, 64);
        hasPixels(check, 0, 7, 120);
        hasPixels(check, 8, 0, 120);
        hasPixels(check, 7, 15, 120);
        hasPixels(check, 15, 8, 120);
        hasPixels(check, 7, 7, 225);
        hasPixels(check, 7, 8, 225);
        hasPixels(check, 8, 7, 225);
        hasPixels(check, 8, 8, 225);
        hasPixels(check, 6, 7, 14 * 15);
        hasPixels(check, 8, 9, 15 * 14);
    }

    private static void hasPixels(Check check, int row, int column, int want) {
        BoxFilters x = new BoxFilters();
        x.set(row, column, 1);
        check.due("1 at (" + row + ", " + column + "): dilate(7, 7)", x.dilate(7, 7), want - 1);
        check.due("1 at (" + row + ", " + column + "), dilated: sum()", x.sum(), want);
    }
}
