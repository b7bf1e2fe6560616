/** Promises 14 and 15: what equal and above tell of the two rasters. */
public final class CompareTest {
    public static void main(String[] args) {
        Check check = new Check();
        ofZerosAndOf255s(check);
        Picture.forAllPairs((raster, spare) -> ofPictures(check, raster, spare));
        for (int i = 0; i < 256; i++) {
            onePixelApart(check, i / 16, i % 16);
            onePixelTheSame(check, i / 16, i % 16);
        }
        valuesNextToEachOther(check);
        greaterLessAndTheSame(check);
        check.end();
    }

    private static void comparison(Check check, String when, BoxFilters x, int equal, int above) {
        check.due(when + ": equal()", x.equal(), equal);
        check.due(when + ": above()", x.above(), above);
    }

    private static void ofZerosAndOf255s(Check check) {
        comparison(check, "zeros over zeros", Check.made(Picture.ZEROS, Picture.ZEROS), 256, 0);
        comparison(check, "zeros over 255s", Check.made(Picture.ZEROS, Picture.FULL), 0, 0);
        comparison(check, "255s over zeros", Check.made(Picture.FULL, Picture.ZEROS), 0, 256);
        comparison(check, "255s over 255s", Check.made(Picture.FULL, Picture.FULL), 256, 0);
    }

    private static void ofPictures(Check check, Picture raster, Picture spare) {
        Model model = Model.made(raster, spare);
        check.changesNothing("equal()", raster, spare, BoxFilters::equal, model.equal());
        check.changesNothing("above()", raster, spare, BoxFilters::above, model.above());
    }

    private static void onePixelApart(Check check, int row, int column) {
        String place = "(" + row + ", " + column + ")";
        BoxFilters x = new BoxFilters();
        x.set(row, column, 1);
        comparison(check, place + " at 1 over 0", x, 255, 1);
        x.exchange();
        comparison(check, place + " at 0 over 1", x, 255, 0);
        x.set(row, column, 1);
        comparison(check, place + " at 1 over 1", x, 256, 0);
    }

    private static void onePixelTheSame(Check check, int row, int column) {
        String place = "(" + row + ", " + column + ") alone the same";
        BoxFilters x = Check.made(Picture.FULL, Picture.ZEROS);
        x.set(row, column, 0);
        comparison(check, place + ", 255s over zeros", x, 1, 255);
        x.exchange();
        comparison(check, place + ", zeros over 255s", x, 1, 0);
    }

    /** Greater is greater by 1 already, at both ends of the values and at 127 and 128, where a byte's sign turns. */
    private static void valuesNextToEachOther(Check check) {
        for (int value = 0; value < 255; value++) {
            BoxFilters x = new BoxFilters();
            x.set(7, 8, value);
            x.keep();
            comparison(check, value + " over " + value, x, 256, 0);
            x.set(7, 8, value + 1);
            comparison(check, (value + 1) + " over " + value, x, 255, 1);
            x.exchange();
            comparison(check, value + " over " + (value + 1), x, 255, 0);
        }
    }

    private static void greaterLessAndTheSame(Check check) {
        BoxFilters x = new BoxFilters();
        x.set(2, 2, 100);
        x.set(2, 3, 100);
        x.set(2, 4, 100);
        x.keep();
        comparison(check, "after keep()", x, 256, 0);
        x.set(2, 2, 99);
        x.set(2, 4, 101);
        x.set(9, 9, 255);
        comparison(check, "one less, two greater", x, 253, 2);
        x.exchange();
        comparison(check, "one greater, two less", x, 253, 1);
    }
}
