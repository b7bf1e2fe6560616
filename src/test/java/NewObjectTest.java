/** Promise 1. */
public final class NewObjectTest {
    public static void main(String[] args) {
        Check check = new Check();
        bothRastersAreZeros(check);
        answersOfANewObject(check);
        filtersOfANewObject(check);
        objectsShareNothing(check);
        check.end();
    }

    private static void bothRastersAreZeros(Check check) {
        check.raster("new object, raster", new BoxFilters(), Picture.ZEROS);
        BoxFilters exchanged = new BoxFilters();
        exchanged.exchange();
        check.raster("new object, spare", exchanged, Picture.ZEROS);
    }

    private static void answersOfANewObject(Check check) {
        BoxFilters x = new BoxFilters();
        check.due("new object: sum()", x.sum(), 0);
        check.due("new object: equal()", x.equal(), 256);
        check.due("new object: above()", x.above(), 0);
        check.due("new object: patches()", x.patches(), 0);
    }

    /** Each as the first call of all. */
    private static void filtersOfANewObject(Check check) {
        check.due("new object: dilate(7, 7)", new BoxFilters().dilate(7, 7), 0);
        check.due("new object: erode(7, 7)", new BoxFilters().erode(7, 7), 0);
        check.due("new object: open(7, 7)", new BoxFilters().open(7, 7), 0);
        check.due("new object: close(7, 7)", new BoxFilters().close(7, 7), 0);
        check.due("new object: mean(7, 7)", new BoxFilters().mean(7, 7), 0);
        check.due("new object: threshold(1)", new BoxFilters().threshold(1), 0);
        check.due("new object: threshold(0)", new BoxFilters().threshold(0), 256);
        check.due("new object: set(15, 15, 255)", new BoxFilters().set(15, 15, 255), 0);
    }

    private static void objectsShareNothing(Check check) {
        BoxFilters old = Check.busy();
        BoxFilters fresh = new BoxFilters();
        check.due("new object beside a used one: sum()", fresh.sum(), 0);
        check.due("new object beside a used one: equal()", fresh.equal(), 256);
        check.raster("used object beside a new one", old, Picture.BUSY);
    }
}
