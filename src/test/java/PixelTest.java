/** Promise 12. */
public final class PixelTest {
    public static void main(String[] args) {
        Check check = new Check();
        check.raster("busy object", Check.busy(), Check.BUSY_RASTER);
        for (int row = 0; row < 16; row++) {
            for (int column = 0; column < 16; column++) {
                answers(check, row, column, Check.BUSY_RASTER.applyAsInt(row, column));
            }
        }
        for (int bad : Check.NOT_0_TO_15) {
            answers(check, bad, 0, BoxFilters.BAD_PIXEL);
            answers(check, bad, 15, BoxFilters.BAD_PIXEL);
            answers(check, 0, bad, BoxFilters.BAD_PIXEL);
            answers(check, 15, bad, BoxFilters.BAD_PIXEL);
            answers(check, bad, bad, BoxFilters.BAD_PIXEL);
        }
        check.end();
    }

    private static void answers(Check check, int row, int column, int want) {
        check.changesNothing("pixel(" + row + ", " + column + ")", x -> x.pixel(row, column), want);
    }
}
