/** Promise 5. */
public final class ErodeTest {
    public static void main(String[] args) {
        Check check = new Check();
        FilterCheck erode = new FilterCheck(check, "erode", BoxFilters::erode);
        erode.turns(ErodeTest::hole, 2, 1, (r, c) -> r >= 4 && r <= 6 && c >= 7 && c <= 11 ? 20 : 255, 14);
        erode.turns(ErodeTest::hole, 0, 3, (r, c) -> r >= 2 && r <= 8 && c == 9 ? 20 : 255, 6);
        erode.turns(ErodeTest::hole, 3, 0, (r, c) -> r == 5 && c >= 6 && c <= 12 ? 20 : 255, 6);
        erode.turns(ErodeTest::cornerHoles, 7, 7, ErodeTest::cornersEroded, 126);
        // What lies beyond an edge is not in the window, so it is no 0 that could eat the raster from there.
        erode.turns(x -> x.threshold(0), 7, 7, (r, c) -> 255, 0);
        erode.turns(x -> x.set(8, 8, 255), 1, 0, (r, c) -> 0, 1);
        erode.refusesWrongSizes();
        erode.isIdleAtSizeZero();
        erode.agreesWithModelAtAllSizes(Model::erosion);
        check.end();
    }

    private static void hole(BoxFilters x) {
        x.threshold(0);
        x.set(5, 9, 20);
    }

    private static void cornerHoles(BoxFilters x) {
        x.threshold(0);
        x.set(0, 15, 0);
        x.set(15, 0, 254);
    }

    private static int cornersEroded(int r, int c) {
        if (r <= 7 && c >= 8) {
            return 0;
        }
        return r >= 8 && c <= 7 ? 254 : 255;
    }
}
