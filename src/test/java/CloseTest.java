/** Promise 7. */
public final class CloseTest {
    public static void main(String[] args) {
        Check check = new Check();
        FilterCheck close = new FilterCheck(check, "close", BoxFilters::close);
        close.turns(CloseTest::hole, 1, 1, (r, c) -> 255, 1);
        close.turns(CloseTest::cornerHole, 1, 0, (r, c) -> 255, 1);
        close.turns(x -> x.set(5, 9, 200), 1, 1, (r, c) -> r == 5 && c == 9 ? 200 : 0, 0);
        close.turns(CloseTest::gapInARow, 1, 0, (r, c) -> r == 5 && c >= 5 && c <= 7 ? 60 : 0, 1);
        close.turns(CloseTest::gapInARow, 0, 1, (r, c) -> r == 5 && (c == 5 || c == 7) ? 60 : 0, 0);
        fillsUpToAnEdge(close);
        keepsWhatACornerWindowHolds(close);
        dilatesFirst(close);
        close.refusesWrongSizes();
        close.isIdleAtSizeZero();
        close.isIdleOnEvenRasters();
        close.agreesWithModelAtAllSizes(Model::closing);
        check.end();
    }

    private static void hole(BoxFilters x) {
        x.threshold(0);
        x.set(5, 9, 20);
    }

    private static void cornerHole(BoxFilters x) {
        x.threshold(0);
        x.set(15, 15, 0);
    }

    private static void gapInARow(BoxFilters x) {
        x.set(5, 5, 60);
        x.set(5, 7, 60);
    }

    /** The window at an edge is smaller, so erosion does not take back what dilation gave there. */
    private static void fillsUpToAnEdge(FilterCheck close) {
        close.turns(x -> x.set(5, 1, 60), 1, 0, (r, c) -> r == 5 && c <= 1 ? 60 : 0, 1);
        close.turns(x -> x.set(5, 14, 60), 1, 0, (r, c) -> r == 5 && c >= 14 ? 60 : 0, 1);
        close.turns(x -> x.set(1, 8, 60), 0, 1, (r, c) -> r <= 1 && c == 8 ? 60 : 0, 1);
        close.turns(x -> x.set(14, 8, 60), 0, 1, (r, c) -> r >= 14 && c == 8 ? 60 : 0, 1);
        close.turns(x -> x.set(5, 2, 60), 1, 0, (r, c) -> r == 5 && c == 2 ? 60 : 0, 0);
    }

    /** The window of a corner is (w + 1) * (h + 1) pixels: a hole of that size stays, one a column smaller is filled. */
    private static void keepsWhatACornerWindowHolds(FilterCheck close) {
        for (int half = 1; half <= 7; half++) {
            int w = half;
            int h = 8 - half;
            close.turns(x -> allButTheCorner(x, w, h), w, h, (r, c) -> r >= 15 - h && c >= 15 - w ? 3 : 255, 0);
            close.turns(x -> allButTheCorner(x, w - 1, h), w, h, (r, c) -> 255, w * (h + 1));
            close.turns(x -> allButTheCorner(x, w, h - 1), w, h, (r, c) -> 255, (w + 1) * h);
        }
    }

    private static void allButTheCorner(BoxFilters x, int columnsMore, int rowsMore) {
        x.threshold(0);
        for (int r = 15 - rowsMore; r <= 15; r++) {
            for (int c = 15 - columnsMore; c <= 15; c++) {
                x.set(r, c, 3);
            }
        }
    }

    /** Erosion first would leave the hole and take the dot. */
    private static void dilatesFirst(FilterCheck close) {
        close.turns(x -> Check.fill(x, (r, c) -> c < 8 && (r != 8 || c != 2) || r == 8 && c == 12 ? 50 : 0), 1, 1,
            (r, c) -> c < 8 || r == 8 && c == 12 ? 50 : 0, 1);
    }
}
