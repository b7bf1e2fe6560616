/** Long mixed runs of calls, each answer held against the model; all promises together. */
public final class ModelTest {
    private static final int RUNS = 300;
    // With one exchange and the 256 calls that look at every pixel these are the document's 512 calls.
    private static final int CALLS = 255;
    private static final int CALLS_WITHOUT_A_LOOK = 512;
    private static final int[] ODD_NUMBERS = {-1, 16, 8, 256, Integer.MIN_VALUE, Integer.MAX_VALUE};

    private final Check check;
    private final int run;
    private final BoxFilters x = new BoxFilters();
    private final Model model = new Model();
    private long seed;

    private ModelTest(Check check, int run) {
        this.check = check;
        this.run = run;
        this.seed = run;
    }

    public static void main(String[] args) {
        Check check = new Check();
        for (int run = 0; run < RUNS; run++) {
            new ModelTest(check, run).goAndLook();
            new ModelTest(check, RUNS + run).go(CALLS_WITHOUT_A_LOOK);
        }
        check.end();
    }

    private void go(int calls) {
        for (int i = 0; i < calls; i++) {
            call();
        }
    }

    private void goAndLook() {
        go(CALLS);
        if (run % 2 == 1) {
            x.exchange();
            model.exchange();
        }
        check.raster("run " + run, x, (r, c) -> model.raster[r][c]);
    }

    /** A number from 0 to below the bound, the same in every run of this test. */
    private int next(int bound) {
        seed = seed * 6364136223846793005L + 1442695040888963407L;
        return (int) ((seed >>> 33) % bound);
    }

    /** Mostly a number that fits, now and then one that does not. */
    private int argument(int bound) {
        return next(40) == 0 ? ODD_NUMBERS[next(ODD_NUMBERS.length)] : next(bound);
    }

    private void due(String call, int got, int want) {
        check.due("run " + run + ": " + call, got, want);
    }

    private void call() {
        switch (next(20)) {
            case 0 -> pattern();
            case 1, 2, 3 -> filter();
            case 4 -> threshold();
            case 5 -> exchange();
            case 6 -> keep();
            case 7, 8 -> pixel();
            case 9 -> due("sum()", x.sum(), model.sum());
            case 10 -> due("equal()", x.equal(), model.equal());
            case 11 -> due("above()", x.above(), model.above());
            case 12, 13 -> due("patches()", x.patches(), model.patches());
            default -> set();
        }
    }

    private void pattern() {
        int a = next(3) == 0 ? next(Integer.MAX_VALUE) * 2 : next(256);
        int b = next(256) - 128;
        x.pattern(a, b);
        model.pattern(a, b);
    }

    private void filter() {
        int w = argument(next(2) == 0 ? 8 : 2);
        int h = argument(next(2) == 0 ? 8 : 2);
        boolean bad = w < 0 || w > 7 || h < 0 || h > 7;
        String sizes = "(" + w + ", " + h + ")";
        switch (next(5)) {
            case 0 -> due("dilate" + sizes, x.dilate(w, h), bad ? -3 : model.become(Model.dilation(model.raster, w, h)));
            case 1 -> due("erode" + sizes, x.erode(w, h), bad ? -3 : model.become(Model.erosion(model.raster, w, h)));
            case 2 -> due("open" + sizes, x.open(w, h), bad ? -3 : model.become(Model.opening(model.raster, w, h)));
            case 3 -> due("close" + sizes, x.close(w, h), bad ? -3 : model.become(Model.closing(model.raster, w, h)));
            default -> due("mean" + sizes, x.mean(w, h), bad ? -3 : model.become(Model.mean(model.raster, w, h)));
        }
    }

    private void threshold() {
        int bound = argument(256);
        due("threshold(" + bound + ")", x.threshold(bound), model.threshold(bound));
    }

    private void exchange() {
        x.exchange();
        model.exchange();
    }

    private void keep() {
        x.keep();
        model.keep();
    }

    private void pixel() {
        int row = argument(16);
        int column = argument(16);
        boolean bad = row < 0 || row > 15 || column < 0 || column > 15;
        due("pixel(" + row + ", " + column + ")", x.pixel(row, column), bad ? -1 : model.raster[row][column]);
    }

    private void set() {
        int row = argument(16);
        int column = argument(16);
        int value = argument(next(2) == 0 ? 256 : 3);
        due("set(" + row + ", " + column + ", " + value + ")", x.set(row, column, value), model.set(row, column, value));
    }
}
