/** Promise 4. */
public final class DilateTest {
    public static void main(String[] args) {
        Check check = new Check();
        FilterCheck dilate = new FilterCheck(check, "dilate", BoxFilters::dilate);
        dilate.turns(x -> x.set(5, 9, 200), 2, 1, (r, c) -> r >= 4 && r <= 6 && c >= 7 && c <= 11 ? 200 : 0, 14);
        dilate.turns(x -> x.set(5, 9, 200), 0, 3, (r, c) -> r >= 2 && r <= 8 && c == 9 ? 200 : 0, 6);
        dilate.turns(x -> x.set(5, 9, 200), 3, 0, (r, c) -> r == 5 && c >= 6 && c <= 12 ? 200 : 0, 6);
        dilate.turns(DilateTest::twoNearEachOther, 1, 0, DilateTest::twoDilated, 3);
        dilate.turns(DilateTest::oppositeCorners, 7, 7, DilateTest::cornersDilated, 126);
        takesTheGreatest(dilate);
        dilate.refusesWrongSizes();
        dilate.isIdleAtSizeZero();
        dilate.isIdleOnEvenRasters();
        dilate.agreesWithModelAtAllSizes(Model::dilation);
        check.end();
    }

    private static void twoNearEachOther(BoxFilters x) {
        x.set(3, 3, 10);
        x.set(3, 5, 20);
    }

    private static int twoDilated(int r, int c) {
        if (r != 3 || c < 2 || c > 6) {
            return 0;
        }
        return c < 4 ? 10 : 20;
    }

    private static void oppositeCorners(BoxFilters x) {
        x.set(0, 0, 255);
        x.set(15, 15, 1);
    }

    private static int cornersDilated(int r, int c) {
        if (r <= 7 && c <= 7) {
            return 255;
        }
        return r >= 8 && c >= 8 ? 1 : 0;
    }

    /** Of two values that differ by 1 alone, from 0 and 1 up to 254 and 255; the least lies in the corner. */
    private static void takesTheGreatest(FilterCheck dilate) {
        for (int value = 0; value < 255; value++) {
            int less = value;
            dilate.turns(x -> inTheCorner(x, less), 1, 0, (r, c) -> r == 0 && c <= 2 ? less + 1 : 0, 2);
        }
    }

    private static void inTheCorner(BoxFilters x, int less) {
        x.set(0, 0, less);
        x.set(0, 1, less + 1);
    }
}
