/** Promise 8. */
public final class MeanTest {
    public static void main(String[] args) {
        Check check = new Check();
        FilterCheck mean = new FilterCheck(check, "mean", BoxFilters::mean);
        mean.turns(x -> x.set(5, 9, 200), 1, 1, (r, c) -> r >= 4 && r <= 6 && c >= 8 && c <= 10 ? 22 : 0, 9);
        mean.turns(x -> x.set(5, 9, 200), 2, 0, (r, c) -> r == 5 && c >= 7 && c <= 11 ? 40 : 0, 5);
        mean.turns(x -> x.set(5, 9, 200), 0, 2, (r, c) -> r >= 3 && r <= 7 && c == 9 ? 40 : 0, 5);
        dividesByTheSmallerWindowsOfACorner(mean);
        mean.turns(x -> x.set(8, 8, 2), 1, 0, (r, c) -> 0, 1);
        mean.turns(x -> x.set(8, 8, 3), 1, 0, (r, c) -> r == 8 && c >= 7 && c <= 9 ? 1 : 0, 3);
        roundsDown(check);
        roundsDownFrom255(check);
        mean.refusesWrongSizes();
        mean.isIdleAtSizeZero();
        mean.isIdleOnEvenRasters();
        mean.agreesWithModelAtAllSizes(Model::mean);
        check.end();
    }

    private static void dividesByTheSmallerWindowsOfACorner(FilterCheck mean) {
        mean.turns(x -> x.set(0, 0, 255), 1, 1, MeanTest::cornerSpread, 4);
        mean.turns(x -> x.set(0, 15, 255), 1, 1, (r, c) -> cornerSpread(r, 15 - c), 4);
        mean.turns(x -> x.set(15, 0, 255), 1, 1, (r, c) -> cornerSpread(15 - r, c), 4);
        mean.turns(x -> x.set(15, 15, 255), 1, 1, (r, c) -> cornerSpread(15 - r, 15 - c), 4);
    }

    /** 255 over windows of 4, 6 and 9 pixels, rounded down. */
    private static int cornerSpread(int r, int c) {
        if (r > 1 || c > 1) {
            return 0;
        }
        int[] byDistance = {63, 42, 28};
        return byDistance[r + c];
    }

    /** "rounded down": for every window around (7, 7), the sums next to how many pixels it has, and to twice as many. */
    private static void roundsDown(Check check) {
        for (int w = 0; w <= 7; w++) {
            for (int h = 0; h <= 7; h++) {
                int many = (2 * w + 1) * (2 * h + 1);
                givesAtTheMiddle(check, w, h, many - 1, 0);
                givesAtTheMiddle(check, w, h, many, 1);
                givesAtTheMiddle(check, w, h, many + 1, many == 1 ? 2 : 1);
                givesAtTheMiddle(check, w, h, 2 * many - 1, 1);
                givesAtTheMiddle(check, w, h, 2 * many, 2);
            }
        }
    }

    /** The whole sum lies in (7, 7) or, if it is more than 255, also in the farthest pixel of its window. */
    private static void givesAtTheMiddle(Check check, int w, int h, int sum, int want) {
        BoxFilters x = new BoxFilters();
        x.set(7, 7, Math.min(sum, 255));
        if (sum > 255) {
            x.set(7 - h, 7 + w, sum - 255);
        }
        String call = "sum " + sum + ", mean(" + w + ", " + h + ")";
        x.mean(w, h);
        check.due(call + ": pixel(7, 7)", x.pixel(7, 7), want);
    }

    /** One 254 among 255s brings every mean over it down to 254. */
    private static void roundsDownFrom255(Check check) {
        FilterCheck mean = new FilterCheck(check, "255s with 254 at (0, 15), mean", BoxFilters::mean);
        mean.turns(MeanTest::allButOneFull, 7, 7, (r, c) -> r <= 7 && c >= 8 ? 254 : 255, 63);
        mean.turns(MeanTest::allButOneFull, 7, 0, (r, c) -> r == 0 && c >= 8 ? 254 : 255, 7);
        mean.turns(MeanTest::allButOneFull, 0, 7, (r, c) -> r <= 7 && c == 15 ? 254 : 255, 7);
    }

    private static void allButOneFull(BoxFilters x) {
        x.threshold(0);
        x.set(0, 15, 254);
    }
}
