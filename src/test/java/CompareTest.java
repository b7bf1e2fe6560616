/** Promises 14 and 15: what equal and above tell of the two rasters. */
public final class CompareTest {
    private static final int[] EDGES = {0, 15};

    public static void main(String[] args) {
        Check check = new Check();
        for (int row : EDGES) {
            for (int column : EDGES) {
                onePixelApart(check, row, column);
            }
        }
        greaterLessAndTheSame(check);
        allPixelsApart(check);
        onBusyRasters(check);
        check.end();
    }

    private static void comparison(Check check, String when, BoxFilters x, int equal, int above) {
        check.due(when + ": equal()", x.equal(), equal);
        check.due(when + ": above()", x.above(), above);
    }

    private static void onePixelApart(Check check, int row, int column) {
        String place = "(" + row + ", " + column + ")";
        BoxFilters x = new BoxFilters();
        x.set(row, column, 1);
        comparison(check, place + " at 1 over 0", x, 255, 1);
        x.exchange();
        comparison(check, place + " at 0 over 1", x, 255, 0);
        x.set(row, column, 1);
        comparison(check, place + " at 1 over 1", x, 256, 0);
    }

    private static void greaterLessAndTheSame(Check check) {
        BoxFilters x = new BoxFilters();
        x.set(2, 2, 100);
        x.set(2, 3, 100);
        x.set(2, 4, 100);
        x.keep();
        comparison(check, "after keep()", x, 256, 0);
        x.set(2, 2, 99);
        x.set(2, 4, 101);
        x.set(9, 9, 255);
        comparison(check, "one less, two greater", x, 253, 2);
        x.exchange();
        comparison(check, "one greater, two less", x, 253, 1);
    }

    private static void allPixelsApart(Check check) {
        BoxFilters x = new BoxFilters();
        x.threshold(0);
        comparison(check, "255s over zeros", x, 0, 256);
        x.exchange();
        comparison(check, "zeros over 255s", x, 0, 0);
    }

    private static void onBusyRasters(Check check) {
        Model model = Model.busy();
        check.changesNothing("equal()", BoxFilters::equal, model.equal());
        check.changesNothing("above()", BoxFilters::above, model.above());
    }
}
