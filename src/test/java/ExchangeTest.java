import java.util.function.IntBinaryOperator;

/** Promise 10. */
public final class ExchangeTest {
    public static void main(String[] args) {
        Check check = new Check();
        Picture.forAllPairs((raster, spare) -> exchanges(check, raster, spare));
        Picture.forAllPairs((raster, spare) -> twiceIsNothing(check, raster, spare));
        Picture.forAllPairs((raster, spare) -> keepsThemApart(check, raster, spare));
        check.bothRasters("exchange() and keep()", ExchangeTest::exchangeAndKeep, Picture.OTHER, Picture.OTHER);
        check.end();
    }

    private static void exchanges(Check check, Picture raster, Picture spare) {
        check.bothRasters("exchange()", raster, spare, BoxFilters::exchange, spare, raster);
    }

    private static void twiceIsNothing(Check check, Picture raster, Picture spare) {
        check.bothRasters("exchange() twice", raster, spare, ExchangeTest::twice, raster, spare);
    }

    /** Also where both rasters are the same, what is set in one of them later is not set in the other. */
    private static void keepsThemApart(Check check, Picture raster, Picture spare) {
        for (int row : Check.FIRST_AND_LAST) {
            for (int column : Check.FIRST_AND_LAST) {
                IntBinaryOperator want = (r, c) -> r == row && c == column ? 9 : spare.applyAsInt(r, c);
                check.bothRasters(
                    "exchange() and set(" + row + ", " + column + ", 9)",
                    raster, spare, x -> exchangeAndSet(x, row, column), want, raster);
            }
        }
    }

    private static void twice(BoxFilters x) {
        x.exchange();
        x.exchange();
    }

    private static void exchangeAndSet(BoxFilters x, int row, int column) {
        x.exchange();
        x.set(row, column, 9);
    }

    private static void exchangeAndKeep(BoxFilters x) {
        x.exchange();
        x.keep();
    }
}
