import java.util.function.Consumer;
import java.util.function.IntBinaryOperator;
import java.util.function.ToIntFunction;

/** Counts and prints the answers that are not as due, and ends a test with exit code 1 if there was one. */
final class Check {
    static final int[] NOT_0_TO_15 = {-1, 16, 255, -256, Integer.MIN_VALUE, Integer.MAX_VALUE};
    static final int[] NOT_0_TO_7 = {-1, 8, 15, 256, Integer.MIN_VALUE, Integer.MAX_VALUE};
    static final int[] NOT_0_TO_255 = {-1, 256, 511, -255, Integer.MIN_VALUE, Integer.MAX_VALUE};

    // Two rasters that differ at many pixels, so that a lost or mixed-up value shows;
    // every pattern has 0 at (0, 0), so that pixel is given a value of its own.
    static final IntBinaryOperator BUSY_RASTER = (r, c) -> r + c == 0 ? 201 : (r * 37 + c * 11 + r * c) & 255;
    static final IntBinaryOperator BUSY_SPARE = (r, c) -> r + c == 0 ? 102 : (r * 5 + c * 91 + r * c) & 255;

    private int wrong = 0;

    void due(String call, long got, long want) {
        if (got != want) {
            wrong++;
            System.out.println(call + " answered " + got + ", due is " + want);
        }
    }

    void end() {
        if (wrong != 0) {
            System.out.println(wrong + " answers are not as due");
            System.exit(1);
        }
    }

    /** A new object with the two busy rasters, after five calls. */
    static BoxFilters busy() {
        BoxFilters x = new BoxFilters();
        x.pattern(5, 91);
        x.set(0, 0, 102);
        x.exchange();
        x.pattern(37, 11);
        x.set(0, 0, 201);
        return x;
    }

    /** Sets every pixel, in 256 calls. */
    static void fill(BoxFilters x, IntBinaryOperator value) {
        for (int r = 0; r < 16; r++) {
            for (int c = 0; c < 16; c++) {
                x.set(r, c, value.applyAsInt(r, c));
            }
        }
    }

    /** Looks at every pixel of the raster, in 256 calls. */
    void raster(String when, BoxFilters x, IntBinaryOperator want) {
        for (int r = 0; r < 16; r++) {
            for (int c = 0; c < 16; c++) {
                due(when + ": pixel(" + r + ", " + c + ")", x.pixel(r, c), want.applyAsInt(r, c));
            }
        }
    }

    /**
     * Makes the calls on two busy objects and looks at the raster of one and the spare raster of the other:
     * looking at both on one object would be more than the 512 calls that the document allows.
     */
    void bothRasters(String calls, Consumer<BoxFilters> run, IntBinaryOperator wantRaster, IntBinaryOperator wantSpare) {
        BoxFilters forRaster = busy();
        run.accept(forRaster);
        raster(calls + ", raster", forRaster, wantRaster);
        BoxFilters forSpare = busy();
        run.accept(forSpare);
        forSpare.exchange();
        raster(calls + ", spare", forSpare, wantSpare);
    }

    /** The call gives this answer on a busy object and changes neither raster. */
    void changesNothing(String call, ToIntFunction<BoxFilters> made, int want) {
        bothRasters(call, x -> due(call, made.applyAsInt(x), want), BUSY_RASTER, BUSY_SPARE);
    }
}
