/** Promise 12. */
public final class PixelTest {
    public static void main(String[] args) {
        Check check = new Check();
        answersEveryPixel(check);
        answersTheLeastAndTheGreatestValue(check);
        refusesPixelsBeyondEachSide(check);
        refusesPixelsWrongInBoth(check);
        check.end();
    }

    private static void answersEveryPixel(Check check) {
        for (int row = 0; row <= 15; row++) {
            for (int column = 0; column <= 15; column++) {
                answers(check, row, column, Picture.BUSY.applyAsInt(row, column));
            }
        }
    }

    private static void answersTheLeastAndTheGreatestValue(Check check) {
        check.raster("zeros", Check.made(Picture.ZEROS, Picture.FULL), Picture.ZEROS);
        check.raster("255s", Check.made(Picture.FULL, Picture.ZEROS), Picture.FULL);
    }

    private static void refusesPixelsBeyondEachSide(Check check) {
        for (int bad : Check.NOT_0_TO_15) {
            for (int good = 0; good <= 15; good++) {
                answers(check, bad, good, BoxFilters.BAD_PIXEL);
                answers(check, good, bad, BoxFilters.BAD_PIXEL);
            }
        }
    }

    private static void refusesPixelsWrongInBoth(Check check) {
        for (int row : Check.NOT_0_TO_15) {
            for (int column : Check.NOT_0_TO_15) {
                answers(check, row, column, BoxFilters.BAD_PIXEL);
            }
        }
    }

    private static void answers(Check check, int row, int column, int want) {
        check.changesNothing("pixel(" + row + ", " + column + ")", x -> x.pixel(row, column), want);
    }
}
