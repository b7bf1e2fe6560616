/** Promise 13. */
public final class SumTest {
    public static void main(String[] args) {
        Check check = new Check();
        grows(check);
        BoxFilters full = new BoxFilters();
        full.threshold(0);
        check.due("sum() of 255s", full.sum(), 65280);
        full.exchange();
        check.due("sum() with the 255s in the spare raster", full.sum(), 0);
        Model model = Model.busy();
        check.changesNothing("sum()", BoxFilters::sum, model.sum());
        check.end();
    }

    private static void grows(Check check) {
        BoxFilters x = new BoxFilters();
        check.due("sum() of zeros", x.sum(), 0);
        x.set(0, 0, 1);
        check.due("sum() with (0, 0) at 1", x.sum(), 1);
        x.set(0, 15, 20);
        check.due("sum() with (0, 15) at 20", x.sum(), 21);
        x.set(15, 0, 100);
        check.due("sum() with (15, 0) at 100", x.sum(), 121);
        x.set(15, 15, 255);
        check.due("sum() with (15, 15) at 255", x.sum(), 376);
        x.set(0, 15, 0);
        check.due("sum() with (0, 15) at 0 again", x.sum(), 356);
    }
}
