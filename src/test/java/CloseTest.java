/** Promise 7. */
public final class CloseTest {
    public static void main(String[] args) {
        Check check = new Check();
        FilterCheck close = new FilterCheck(check, "close", BoxFilters::close);
        close.turns(CloseTest::hole, 1, 1, (r, c) -> 255, 1);
        close.turns(CloseTest::cornerHole, 1, 0, (r, c) -> 255, 1);
        close.turns(x -> x.set(5, 9, 200), 1, 1, (r, c) -> r == 5 && c == 9 ? 200 : 0, 0);
        close.turns(CloseTest::gapInARow, 1, 0, (r, c) -> r == 5 && c >= 5 && c <= 7 ? 60 : 0, 1);
        close.turns(CloseTest::gapInARow, 0, 1, (r, c) -> r == 5 && (c == 5 || c == 7) ? 60 : 0, 0);
        // The window of column 0 is smaller, so erosion does not take back what dilation gave there.
        close.turns(x -> x.set(5, 1, 60), 1, 0, (r, c) -> r == 5 && c <= 1 ? 60 : 0, 1);
        close.turns(x -> x.set(14, 8, 60), 0, 1, (r, c) -> r >= 14 && c == 8 ? 60 : 0, 1);
        close.turns(x -> x.threshold(1), 7, 7, (r, c) -> 0, 0);
        close.refusesWrongSizes();
        close.isIdleAtSizeZero();
        close.agreesWithModelAtAllSizes(Model::closing);
        check.end();
    }

    private static void hole(BoxFilters x) {
        x.threshold(0);
        x.set(5, 9, 20);
    }

    private static void cornerHole(BoxFilters x) {
        x.threshold(0);
        x.set(15, 15, 0);
    }

    private static void gapInARow(BoxFilters x) {
        x.set(5, 5, 60);
        x.set(5, 7, 60);
    }
}
