/** Promise 3. */
public final class PatternTest {
    private static final int[] FACTORS = {
        0, 1, -1, 9, 100, -77, 255, 256, 257, 65_536, 123_456_789, Integer.MAX_VALUE, Integer.MIN_VALUE
    };

    public static void main(String[] args) {
        Check check = new Check();
        knownPixels(check);
        rowsAndColumnsAreToldApart(check);
        for (int a : FACTORS) {
            for (int b : FACTORS) {
                allPixels(check, a, b);
            }
        }
        check.end();
    }

    private static void knownPixels(Check check) {
        BoxFilters x = new BoxFilters();
        x.set(0, 0, 255);
        x.pattern(10, 20);
        check.due("pattern(10, 20): pixel(0, 0)", x.pixel(0, 0), 0);
        check.due("pattern(10, 20): pixel(1, 0)", x.pixel(1, 0), 10);
        check.due("pattern(10, 20): pixel(0, 1)", x.pixel(0, 1), 20);
        check.due("pattern(10, 20): pixel(2, 3)", x.pixel(2, 3), 86);
        check.due("pattern(10, 20): pixel(15, 15)", x.pixel(15, 15), 675 - 512);
        x.pattern(-1, 0);
        check.due("pattern(-1, 0): pixel(1, 0)", x.pixel(1, 0), 255);
    }

    private static void rowsAndColumnsAreToldApart(Check check) {
        check.bothRasters("pattern(1, 0)", x -> x.pattern(1, 0), (r, c) -> (r + r * c) & 255, Check.BUSY_SPARE);
        check.bothRasters("pattern(0, 1)", x -> x.pattern(0, 1), (r, c) -> (c + r * c) & 255, Check.BUSY_SPARE);
    }

    private static void allPixels(Check check, int a, int b) {
        Model model = new Model();
        model.pattern(a, b);
        String call = "pattern(" + a + ", " + b + ")";
        check.bothRasters(call, x -> x.pattern(a, b), (r, c) -> model.raster[r][c], Check.BUSY_SPARE);
    }
}
