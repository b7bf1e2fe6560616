/** "The filters answer how many pixels of the raster have another value then": the fewest, the most, and between. */
public final class ChangedCountTest {
    public static void main(String[] args) {
        Check check = new Check();
        FilterCheck dilate = new FilterCheck(check, "changed by dilate", BoxFilters::dilate);
        FilterCheck erode = new FilterCheck(check, "changed by erode", BoxFilters::erode);
        FilterCheck open = new FilterCheck(check, "changed by open", BoxFilters::open);
        FilterCheck close = new FilterCheck(check, "changed by close", BoxFilters::close);
        FilterCheck mean = new FilterCheck(check, "changed by mean", BoxFilters::mean);

        // The greatest value can't be dilated and the least can't be eroded: all the others can.
        dilate.turns(ChangedCountTest::ramp, 1, 1, (r, c) -> Math.min(r + 1, 15) * 16 + Math.min(c + 1, 15), 255);
        erode.turns(ChangedCountTest::ramp, 1, 1, (r, c) -> Math.max(r - 1, 0) * 16 + Math.max(c - 1, 0), 255);
        // The windows of (7, 7) in the four corners have no pixel in common, so each leaves one of its pixels alone.
        open.turns(ChangedCountTest::allButTheMiddle, 7, 7, Picture.ZEROS, 252);
        close.turns(ChangedCountTest::middle, 7, 7, Picture.FULL, 252);
        mean.turns(ChangedCountTest::chessboard, 1, 0, ChangedCountTest::chessboardMean, 256);

        dilate.turns(x -> x.set(0, 0, 1), 0, 1, (r, c) -> r <= 1 && c == 0 ? 1 : 0, 1);
        erode.turns(x -> x.set(15, 15, 1), 1, 0, Picture.ZEROS, 1);
        open.turns(x -> x.set(0, 15, 1), 1, 0, Picture.ZEROS, 1);
        close.turns(ChangedCountTest::cornerHole, 1, 0, Picture.FULL, 1);
        mean.turns(x -> x.set(15, 0, 1), 1, 0, Picture.ZEROS, 1);

        againstTheRasterBeforeTheCall(open, close);
        theSecondTimeNothing(check);
        check.end();
    }

    private static void ramp(BoxFilters x) {
        Check.fill(x, (r, c) -> r * 16 + c);
    }

    private static void middle(BoxFilters x) {
        x.set(7, 7, 255);
        x.set(7, 8, 255);
        x.set(8, 7, 255);
        x.set(8, 8, 255);
    }

    private static void allButTheMiddle(BoxFilters x) {
        x.threshold(0);
        x.set(7, 7, 0);
        x.set(7, 8, 0);
        x.set(8, 7, 0);
        x.set(8, 8, 0);
    }

    private static void chessboard(BoxFilters x) {
        Check.fill(x, (r, c) -> (r + c) % 2 * 255);
    }

    private static int chessboardMean(int r, int c) {
        if (c == 0 || c == 15) {
            return 127;
        }
        return (r + c) % 2 == 0 ? 170 : 85;
    }

    private static void cornerHole(BoxFilters x) {
        x.threshold(0);
        x.set(15, 15, 254);
    }

    /** What the first pass takes and the second one gives back is not counted. */
    private static void againstTheRasterBeforeTheCall(FilterCheck open, FilterCheck close) {
        open.turns(x -> Check.fill(x, (r, c) -> c < 8 ? 40 : 0), 3, 3, (r, c) -> c < 8 ? 40 : 0, 0);
        close.turns(x -> Check.fill(x, (r, c) -> c < 8 ? 40 : 0), 3, 3, (r, c) -> c < 8 ? 40 : 0, 0);
    }

    /** An opening or closing of its own result changes nothing more. */
    private static void theSecondTimeNothing(Check check) {
        BoxFilters opened = Check.busy();
        check.due("first open(2, 2) changes pixels", opened.open(2, 2) > 0 ? 1 : 0, 1);
        check.due("second open(2, 2)", opened.open(2, 2), 0);
        BoxFilters closed = Check.busy();
        check.due("first close(2, 2) changes pixels", closed.close(2, 2) > 0 ? 1 : 0, 1);
        check.due("second close(2, 2)", closed.close(2, 2), 0);
    }
}
