/** Promise 8. */
public final class MeanTest {
    public static void main(String[] args) {
        Check check = new Check();
        FilterCheck mean = new FilterCheck(check, "mean", BoxFilters::mean);
        mean.turns(x -> x.set(5, 9, 200), 1, 1, (r, c) -> r >= 4 && r <= 6 && c >= 8 && c <= 10 ? 22 : 0, 9);
        mean.turns(x -> x.set(5, 9, 200), 2, 0, (r, c) -> r == 5 && c >= 7 && c <= 11 ? 40 : 0, 5);
        mean.turns(x -> x.set(5, 9, 200), 0, 2, (r, c) -> r >= 3 && r <= 7 && c == 9 ? 40 : 0, 5);
        mean.turns(x -> x.set(0, 0, 255), 1, 1, MeanTest::cornerSpread, 4);
        mean.turns(x -> x.set(15, 15, 255), 1, 1, (r, c) -> cornerSpread(15 - r, 15 - c), 4);
        mean.turns(x -> x.set(8, 8, 2), 1, 0, (r, c) -> 0, 1);
        mean.turns(x -> x.set(8, 8, 3), 1, 0, (r, c) -> r == 8 && c >= 7 && c <= 9 ? 1 : 0, 3);
        mean.turns(x -> x.threshold(0), 7, 7, (r, c) -> 255, 0);
        mean.refusesWrongSizes();
        mean.isIdleAtSizeZero();
        mean.agreesWithModelAtAllSizes(Model::mean);
        check.end();
    }

    /** 255 over windows of 4, 6 and 9 pixels, rounded down. */
    private static int cornerSpread(int r, int c) {
        if (r > 1 || c > 1) {
            return 0;
        }
        int[] byDistance = {63, 42, 28};
        return byDistance[r + c];
    }
}
