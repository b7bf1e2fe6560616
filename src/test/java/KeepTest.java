import java.util.function.IntBinaryOperator;

/** Promise 11. */
public final class KeepTest {
    public static void main(String[] args) {
        Check check = new Check();
        Picture.forAllPairs((raster, spare) -> keeps(check, raster, spare));
        Picture.forAllPairs((raster, spare) -> twiceIsOnce(check, raster, spare));
        Picture.forAllPairs((raster, spare) -> keepsThemApart(check, raster, spare));
        check.bothRasters("keep() and threshold(256)", KeepTest::keepAndClear, Picture.ZEROS, Picture.BUSY);
        check.bothRasters(
            "keep(), exchange() and threshold(256)", KeepTest::keepExchangeAndClear, Picture.ZEROS, Picture.BUSY);
        check.end();
    }

    private static void keeps(Check check, Picture raster, Picture spare) {
        check.bothRasters("keep()", raster, spare, BoxFilters::keep, raster, raster);
    }

    private static void twiceIsOnce(Check check, Picture raster, Picture spare) {
        check.bothRasters("keep() twice", raster, spare, KeepTest::twice, raster, raster);
    }

    /** The same in value, but what is set in the raster later is not set in the spare one. */
    private static void keepsThemApart(Check check, Picture raster, Picture spare) {
        for (int row : Check.FIRST_AND_LAST) {
            for (int column : Check.FIRST_AND_LAST) {
                IntBinaryOperator want = (r, c) -> r == row && c == column ? 9 : raster.applyAsInt(r, c);
                check.bothRasters(
                    "keep() and set(" + row + ", " + column + ", 9)",
                    raster, spare, x -> keepAndSet(x, row, column), want, raster);
            }
        }
    }

    private static void twice(BoxFilters x) {
        x.keep();
        x.keep();
    }

    private static void keepAndSet(BoxFilters x, int row, int column) {
        x.keep();
        x.set(row, column, 9);
    }

    private static void keepAndClear(BoxFilters x) {
        x.keep();
        x.threshold(256);
    }

    private static void keepExchangeAndClear(BoxFilters x) {
        x.keep();
        x.exchange();
        x.threshold(256);
    }
}
