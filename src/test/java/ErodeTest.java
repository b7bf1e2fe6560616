/** Promise 5. */
public final class ErodeTest {
    public static void main(String[] args) {
        Check check = new Check();
        FilterCheck erode = new FilterCheck(check, "erode", BoxFilters::erode);
        erode.turns(ErodeTest::hole, 2, 1, (r, c) -> r >= 4 && r <= 6 && c >= 7 && c <= 11 ? 20 : 255, 14);
        erode.turns(ErodeTest::hole, 0, 3, (r, c) -> r >= 2 && r <= 8 && c == 9 ? 20 : 255, 6);
        erode.turns(ErodeTest::hole, 3, 0, (r, c) -> r == 5 && c >= 6 && c <= 12 ? 20 : 255, 6);
        erode.turns(ErodeTest::cornerHoles, 7, 7, ErodeTest::cornersEroded, 126);
        erode.turns(x -> x.set(8, 8, 255), 1, 0, (r, c) -> 0, 1);
        takesTheLeast(erode);
        erode.refusesWrongSizes();
        erode.isIdleAtSizeZero();
        erode.isIdleOnEvenRasters();
        erode.agreesWithModelAtAllSizes(Model::erosion);
        check.end();
    }

    private static void hole(BoxFilters x) {
        x.threshold(0);
        x.set(5, 9, 20);
    }

    private static void cornerHoles(BoxFilters x) {
        x.threshold(0);
        x.set(0, 15, 0);
        x.set(15, 0, 254);
    }

    private static int cornersEroded(int r, int c) {
        if (r <= 7 && c >= 8) {
            return 0;
        }
        return r >= 8 && c <= 7 ? 254 : 255;
    }

    /** Of two values that differ by 1 alone, from 0 and 1 up to 254 and 255; the greatest lies in the corner. */
    private static void takesTheLeast(FilterCheck erode) {
        for (int value = 0; value < 255; value++) {
            int less = value;
            erode.turns(x -> inTheCorner(x, less), 1, 0, (r, c) -> r == 15 && c >= 13 ? less : 255, 2);
        }
    }

    private static void inTheCorner(BoxFilters x, int less) {
        x.threshold(0);
        x.set(15, 15, less + 1);
        x.set(15, 14, less);
    }
}
