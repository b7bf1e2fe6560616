/** Promise 2. */
public final class SetTest {
    private static final int[] EDGES = {0, 15};

    public static void main(String[] args) {
        Check check = new Check();
        setsOnePixelAlone(check);
        answersTheOldValue(check);
        takesTheEdges(check);
        refusesPixels(check);
        refusesValues(check);
        testsThePixelFirst(check);
        check.end();
    }

    private static void setsOnePixelAlone(Check check) {
        check.bothRasters(
            "set(3, 12, 200)",
            x -> check.due("set(3, 12, 200)", x.set(3, 12, 200), Check.BUSY_RASTER.applyAsInt(3, 12)),
            (r, c) -> r == 3 && c == 12 ? 200 : Check.BUSY_RASTER.applyAsInt(r, c),
            Check.BUSY_SPARE);
    }

    private static void answersTheOldValue(Check check) {
        BoxFilters x = new BoxFilters();
        check.due("first set(7, 2, 255)", x.set(7, 2, 255), 0);
        check.due("second set(7, 2, 1)", x.set(7, 2, 1), 255);
        check.due("third set(7, 2, 1)", x.set(7, 2, 1), 1);
        check.due("fourth set(7, 2, 0)", x.set(7, 2, 0), 1);
        check.due("pixel(7, 2) at last", x.pixel(7, 2), 0);
    }

    private static void takesTheEdges(Check check) {
        for (int row : EDGES) {
            for (int column : EDGES) {
                BoxFilters x = new BoxFilters();
                String place = row + ", " + column;
                check.due("set(" + place + ", 255)", x.set(row, column, 255), 0);
                check.due("set(" + place + ", 0)", x.set(row, column, 0), 255);
                check.due("set(" + place + ", 9)", x.set(row, column, 9), 0);
                check.raster("set(" + place + ", 9)", x, (r, c) -> r == row && c == column ? 9 : 0);
            }
        }
    }

    private static void refusesPixels(Check check) {
        for (int bad : Check.NOT_0_TO_15) {
            refuses(check, bad, 0, 100, BoxFilters.BAD_PIXEL);
            refuses(check, bad, 15, 100, BoxFilters.BAD_PIXEL);
            refuses(check, 0, bad, 100, BoxFilters.BAD_PIXEL);
            refuses(check, 15, bad, 100, BoxFilters.BAD_PIXEL);
            refuses(check, bad, bad, 100, BoxFilters.BAD_PIXEL);
        }
    }

    private static void refusesValues(Check check) {
        for (int bad : Check.NOT_0_TO_255) {
            refuses(check, 0, 0, bad, BoxFilters.BAD_VALUE);
            refuses(check, 15, 15, bad, BoxFilters.BAD_VALUE);
            refuses(check, 4, 11, bad, BoxFilters.BAD_VALUE);
        }
    }

    private static void testsThePixelFirst(Check check) {
        for (int bad : Check.NOT_0_TO_255) {
            refuses(check, -1, 3, bad, BoxFilters.BAD_PIXEL);
            refuses(check, 3, 16, bad, BoxFilters.BAD_PIXEL);
        }
    }

    private static void refuses(Check check, int row, int column, int value, int want) {
        check.changesNothing("set(" + row + ", " + column + ", " + value + ")", x -> x.set(row, column, value), want);
    }
}
