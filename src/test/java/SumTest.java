/** Promise 13. */
public final class SumTest {
    public static void main(String[] args) {
        Check check = new Check();
        grows(check);
        takesInEveryPixel(check);
        ofZerosAndOf255s(check);
        Picture.forAllPairs((raster, spare) -> looksAtTheRasterAlone(check, raster, spare));
        check.end();
    }

    private static void grows(Check check) {
        BoxFilters x = new BoxFilters();
        check.due("sum() of zeros", x.sum(), 0);
        x.set(0, 0, 1);
        check.due("sum() with (0, 0) at 1", x.sum(), 1);
        x.set(0, 15, 20);
        check.due("sum() with (0, 15) at 20", x.sum(), 21);
        x.set(15, 0, 100);
        check.due("sum() with (15, 0) at 100", x.sum(), 121);
        x.set(15, 15, 255);
        check.due("sum() with (15, 15) at 255", x.sum(), 376);
        x.set(0, 15, 0);
        check.due("sum() with (0, 15) at 0 again", x.sum(), 356);
    }

    /** One pixel at a time: the least sum above that of zeros, and the greatest below that of 255s. */
    private static void takesInEveryPixel(Check check) {
        for (int i = 0; i < 256; i++) {
            String place = "(" + i / 16 + ", " + i % 16 + ")";
            BoxFilters dot = Check.made(Picture.ZEROS, Picture.FULL);
            dot.set(i / 16, i % 16, 1);
            check.due("sum() of zeros with 1 at " + place, dot.sum(), 1);
            BoxFilters hole = Check.made(Picture.FULL, Picture.ZEROS);
            hole.set(i / 16, i % 16, 254);
            check.due("sum() of 255s with 254 at " + place, hole.sum(), 65279);
        }
    }

    private static void ofZerosAndOf255s(Check check) {
        check.changesNothing("sum()", Picture.ZEROS, Picture.FULL, BoxFilters::sum, 0);
        check.changesNothing("sum()", Picture.ZEROS, Picture.ZEROS, BoxFilters::sum, 0);
        check.changesNothing("sum()", Picture.FULL, Picture.ZEROS, BoxFilters::sum, 65280);
        check.changesNothing("sum()", Picture.FULL, Picture.FULL, BoxFilters::sum, 65280);
    }

    private static void looksAtTheRasterAlone(Check check, Picture raster, Picture spare) {
        check.changesNothing("sum()", raster, spare, BoxFilters::sum, Model.made(raster, spare).sum());
    }
}
