/** Promise 4. */
public final class DilateTest {
    public static void main(String[] args) {
        Check check = new Check();
        FilterCheck dilate = new FilterCheck(check, "dilate", BoxFilters::dilate);
        dilate.turns(x -> x.set(5, 9, 200), 2, 1, (r, c) -> r >= 4 && r <= 6 && c >= 7 && c <= 11 ? 200 : 0, 14);
        dilate.turns(x -> x.set(5, 9, 200), 0, 3, (r, c) -> r >= 2 && r <= 8 && c == 9 ? 200 : 0, 6);
        dilate.turns(x -> x.set(5, 9, 200), 3, 0, (r, c) -> r == 5 && c >= 6 && c <= 12 ? 200 : 0, 6);
        dilate.turns(DilateTest::twoBesideEachOther, 1, 0, DilateTest::twoDilated, 3);
        dilate.turns(DilateTest::oppositeCorners, 7, 7, DilateTest::cornersDilated, 126);
        dilate.turns(x -> x.threshold(0), 7, 7, (r, c) -> 255, 0);
        dilate.turns(x -> x.threshold(1), 7, 7, (r, c) -> 0, 0);
        dilate.refusesWrongSizes();
        dilate.isIdleAtSizeZero();
        dilate.agreesWithModelAtAllSizes(Model::dilation);
        check.end();
    }

    private static void twoBesideEachOther(BoxFilters x) {
        x.set(3, 3, 10);
        x.set(3, 5, 20);
    }

    private static int twoDilated(int r, int c) {
        if (r != 3 || c < 2 || c > 6) {
            return 0;
        }
        return c < 4 ? 10 : 20;
    }

    private static void oppositeCorners(BoxFilters x) {
        x.set(0, 0, 255);
        x.set(15, 15, 1);
    }

    private static int cornersDilated(int r, int c) {
        if (r <= 7 && c <= 7) {
            return 255;
        }
        return r >= 8 && c >= 8 ? 1 : 0;
    }
}
