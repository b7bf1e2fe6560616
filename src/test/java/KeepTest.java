/** Promise 11. */
public final class KeepTest {
    public static void main(String[] args) {
        Check check = new Check();
        check.bothRasters("keep()", BoxFilters::keep, Check.BUSY_RASTER, Check.BUSY_RASTER);
        check.bothRasters("keep() and threshold(256)", KeepTest::keepAndClear, (r, c) -> 0, Check.BUSY_RASTER);
        check.bothRasters("keep(), exchange() and threshold(256)", KeepTest::keepExchangeAndClear, (r, c) -> 0, Check.BUSY_RASTER);
        check.end();
    }

    private static void keepAndClear(BoxFilters x) {
        x.keep();
        x.threshold(256);
    }

    private static void keepExchangeAndClear(BoxFilters x) {
        x.keep();
        x.exchange();
        x.threshold(256);
    }
}
