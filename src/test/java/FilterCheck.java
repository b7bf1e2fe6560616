import java.util.function.Consumer;
import java.util.function.IntBinaryOperator;

/** What dilate, erode, open, close and mean have in common: sizes, the answer, and the spare raster left alone. */
final class FilterCheck {
    interface Filter {
        int apply(BoxFilters x, int w, int h);
    }

    interface ModelFilter {
        int[][] apply(int[][] from, int w, int h);
    }

    private final Check check;
    private final String name;
    private final Filter filter;

    FilterCheck(Check check, String name, Filter filter) {
        this.check = check;
        this.name = name;
        this.filter = filter;
    }

    /** One call on a new object, after the calls that set it up; then every pixel is looked at. */
    void turns(Consumer<BoxFilters> setUp, int w, int h, IntBinaryOperator want, int changed) {
        BoxFilters x = new BoxFilters();
        setUp.accept(x);
        check.due(call(w, h), filter.apply(x, w, h), changed);
        check.raster(call(w, h), x, want);
    }

    /** "w or h not in 0 to 7 is BAD_SIZE": w alone, h alone and both; also where no pixel would change anyway. */
    void refusesWrongSizes() {
        for (int bad : Check.NOT_0_TO_7) {
            for (int good = 0; good <= 7; good++) {
                refuses(bad, good);
                refuses(good, bad);
            }
            for (int otherBad : Check.NOT_0_TO_7) {
                refuses(bad, otherBad);
            }
        }
    }

    private void refuses(int w, int h) {
        for (Picture raster : Picture.values()) {
            check.changesNothing(call(w, h), raster, Picture.OTHER, x -> filter.apply(x, w, h), BoxFilters.BAD_SIZE);
        }
    }

    /** The window of the pixel alone gives back its value. */
    void isIdleAtSizeZero() {
        check.changesNothing(call(0, 0), x -> filter.apply(x, 0, 0), 0);
    }

    /** All values of a window are the same, at the edges too, where nothing from beyond may come in. */
    void isIdleOnEvenRasters() {
        for (int w = 0; w <= 7; w++) {
            for (int h = 0; h <= 7; h++) {
                isIdleOn(Picture.ZEROS, w, h);
                isIdleOn(Picture.FULL, w, h);
            }
        }
    }

    private void isIdleOn(Picture raster, int w, int h) {
        check.changesNothing(call(w, h), raster, Picture.OTHER, x -> filter.apply(x, w, h), 0);
    }

    void agreesWithModelAtAllSizes(ModelFilter due) {
        for (int w = 0; w <= 7; w++) {
            for (int h = 0; h <= 7; h++) {
                agreesWithModel(due, w, h);
            }
        }
    }

    private void agreesWithModel(ModelFilter due, int w, int h) {
        Model model = Model.busy();
        int changed = model.become(due.apply(model.raster, w, h));
        check.bothRasters(
            call(w, h),
            x -> check.due(call(w, h), filter.apply(x, w, h), changed),
            (r, c) -> model.raster[r][c],
            Picture.OTHER);
    }

    private String call(int w, int h) {
        return name + "(" + w + ", " + h + ")";
    }
}
