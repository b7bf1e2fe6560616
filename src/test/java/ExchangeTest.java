/** Promise 10. */
public final class ExchangeTest {
    public static void main(String[] args) {
        Check check = new Check();
        check.bothRasters("exchange()", BoxFilters::exchange, Check.BUSY_SPARE, Check.BUSY_RASTER);
        check.bothRasters("exchange() twice", ExchangeTest::twice, Check.BUSY_RASTER, Check.BUSY_SPARE);
        check.bothRasters(
            "exchange() and set(15, 0, 1)",
            ExchangeTest::exchangeAndSet,
            (r, c) -> r == 15 && c == 0 ? 1 : Check.BUSY_SPARE.applyAsInt(r, c),
            Check.BUSY_RASTER);
        check.bothRasters("exchange() and keep()", ExchangeTest::exchangeAndKeep, Check.BUSY_SPARE, Check.BUSY_SPARE);
        check.end();
    }

    private static void twice(BoxFilters x) {
        x.exchange();
        x.exchange();
    }

    private static void exchangeAndSet(BoxFilters x) {
        x.exchange();
        x.set(15, 0, 1);
    }

    private static void exchangeAndKeep(BoxFilters x) {
        x.exchange();
        x.keep();
    }
}
