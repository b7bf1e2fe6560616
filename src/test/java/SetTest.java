/** Promise 2. */
public final class SetTest {
    public static void main(String[] args) {
        Check check = new Check();
        setsOnePixelAlone(check);
        answersTheOldValue(check);
        takesEveryRowAndColumn(check);
        takesEveryValue(check);
        refusesPixelsBeyondEachSide(check);
        refusesPixelsWrongInBoth(check);
        refusesValues(check);
        testsThePixelFirst(check);
        check.end();
    }

    private static void setsOnePixelAlone(Check check) {
        for (int row : Check.FIRST_AND_LAST) {
            for (int column : Check.FIRST_AND_LAST) {
                setsAlone(check, row, column, 0);
                setsAlone(check, row, column, 255);
            }
        }
        setsAlone(check, 3, 12, 200);
    }

    private static void setsAlone(Check check, int row, int column, int value) {
        String call = call(row, column, value);
        check.bothRasters(
            call,
            x -> check.due(call, x.set(row, column, value), Picture.BUSY.applyAsInt(row, column)),
            (r, c) -> r == row && c == column ? value : Picture.BUSY.applyAsInt(r, c),
            Picture.OTHER);
    }

    private static void answersTheOldValue(Check check) {
        BoxFilters x = new BoxFilters();
        check.due("first set(7, 2, 255)", x.set(7, 2, 255), 0);
        check.due("second set(7, 2, 1)", x.set(7, 2, 1), 255);
        check.due("third set(7, 2, 1)", x.set(7, 2, 1), 1);
        check.due("fourth set(7, 2, 0)", x.set(7, 2, 0), 1);
        check.due("pixel(7, 2) at last", x.pixel(7, 2), 0);
        check.due("set(7, 2, 256), refused", x.set(7, 2, 256), BoxFilters.BAD_VALUE);
        check.due("set(7, 2, 9) after the refused one", x.set(7, 2, 9), 0);
    }

    /** "row or column not in 0 to 15": from inside, 0 and 15 and all between are taken. */
    private static void takesEveryRowAndColumn(Check check) {
        for (int row = 0; row <= 15; row++) {
            for (int column = 0; column <= 15; column++) {
                setsAlone(check, row, column, 77);
            }
        }
    }

    /** "value not in 0 to 255": from inside, 0 and 255 and all between are taken, each in place of the one before. */
    private static void takesEveryValue(Check check) {
        for (int value = 0; value <= 255; value++) {
            BoxFilters x = new BoxFilters();
            check.due(call(8, 8, value), x.set(8, 8, value), 0);
            check.due(call(8, 8, value) + ": pixel(8, 8)", x.pixel(8, 8), value);
            check.due(call(8, 8, value) + ": set(8, 8, 255)", x.set(8, 8, 255), value);
        }
    }

    private static void refusesPixelsBeyondEachSide(Check check) {
        for (int bad : Check.NOT_0_TO_15) {
            for (int good = 0; good <= 15; good++) {
                refuses(check, bad, good, 100, BoxFilters.BAD_PIXEL);
                refuses(check, good, bad, 100, BoxFilters.BAD_PIXEL);
            }
        }
    }

    private static void refusesPixelsWrongInBoth(Check check) {
        for (int row : Check.NOT_0_TO_15) {
            for (int column : Check.NOT_0_TO_15) {
                refuses(check, row, column, 100, BoxFilters.BAD_PIXEL);
            }
        }
    }

    private static void refusesValues(Check check) {
        for (int bad : Check.NOT_0_TO_255) {
            for (int row : Check.FIRST_AND_LAST) {
                for (int column : Check.FIRST_AND_LAST) {
                    refuses(check, row, column, bad, BoxFilters.BAD_VALUE);
                }
            }
            refuses(check, 4, 11, bad, BoxFilters.BAD_VALUE);
        }
    }

    /** "Tests are made in the order in which they are named": where pixel and value are wrong, it is BAD_PIXEL. */
    private static void testsThePixelFirst(Check check) {
        for (int badValue : Check.NOT_0_TO_255) {
            for (int badPlace : Check.NOT_0_TO_15) {
                refuses(check, badPlace, 3, badValue, BoxFilters.BAD_PIXEL);
                refuses(check, 3, badPlace, badValue, BoxFilters.BAD_PIXEL);
                refuses(check, badPlace, badPlace, badValue, BoxFilters.BAD_PIXEL);
            }
        }
    }

    private static void refuses(Check check, int row, int column, int value, int want) {
        check.changesNothing(call(row, column, value), x -> x.set(row, column, value), want);
    }

    private static String call(int row, int column, int value) {
        return "set(" + row + ", " + column + ", " + value + ")";
    }
}
