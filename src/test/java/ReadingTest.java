/** "The calls below change nothing": pixel, sum, equal, above and patches, whatever stands in the rasters. */
public final class ReadingTest {
    public static void main(String[] args) {
        Check check = new Check();
        Picture.forAllPairs((raster, spare) -> eachAlone(check, raster, spare));
        Picture.forAllPairs((raster, spare) -> oneAfterTheOther(check, raster, spare));
        check.end();
    }

    private static void eachAlone(Check check, Picture raster, Picture spare) {
        Model model = Model.made(raster, spare);
        check.changesNothing("pixel(0, 0)", raster, spare, x -> x.pixel(0, 0), model.raster[0][0]);
        check.changesNothing("pixel(15, 15)", raster, spare, x -> x.pixel(15, 15), model.raster[15][15]);
        check.changesNothing("pixel(15, 16)", raster, spare, x -> x.pixel(15, 16), BoxFilters.BAD_PIXEL);
        check.changesNothing("sum()", raster, spare, BoxFilters::sum, model.sum());
        check.changesNothing("equal()", raster, spare, BoxFilters::equal, model.equal());
        check.changesNothing("above()", raster, spare, BoxFilters::above, model.above());
        check.changesNothing("patches()", raster, spare, BoxFilters::patches, model.patches());
    }

    /** Nothing that one of them leaves behind shows in another, or in itself the second time. */
    private static void oneAfterTheOther(Check check, Picture raster, Picture spare) {
        BoxFilters x = Check.made(raster, spare);
        Model model = Model.made(raster, spare);
        for (int time = 1; time <= 3; time++) {
            String when = raster + " over " + spare + ", time " + time + ": ";
            check.due(when + "patches()", x.patches(), model.patches());
            check.due(when + "above()", x.above(), model.above());
            check.due(when + "equal()", x.equal(), model.equal());
            check.due(when + "sum()", x.sum(), model.sum());
            check.due(when + "pixel(15, 0)", x.pixel(15, 0), model.raster[15][0]);
        }
    }
}
