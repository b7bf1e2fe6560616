/** Promise 1. */
public final class NewObjectTest {
    public static void main(String[] args) {
        Check check = new Check();
        check.raster("new object, raster", new BoxFilters(), (r, c) -> 0);
        BoxFilters exchanged = new BoxFilters();
        exchanged.exchange();
        check.raster("new object, spare", exchanged, (r, c) -> 0);
        answersOfANewObject(check);
        objectsShareNothing(check);
        check.end();
    }

    private static void answersOfANewObject(Check check) {
        BoxFilters x = new BoxFilters();
        check.due("new object: sum()", x.sum(), 0);
        check.due("new object: equal()", x.equal(), 256);
        check.due("new object: above()", x.above(), 0);
        check.due("new object: patches()", x.patches(), 0);
    }

    private static void objectsShareNothing(Check check) {
        BoxFilters old = Check.busy();
        BoxFilters fresh = new BoxFilters();
        check.due("new object beside a used one: sum()", fresh.sum(), 0);
        check.due("new object beside a used one: equal()", fresh.equal(), 256);
        check.raster("used object beside a new one", old, Check.BUSY_RASTER);
    }
}
