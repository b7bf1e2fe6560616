import java.util.function.Consumer;
import java.util.function.IntBinaryOperator;
import java.util.function.ToIntFunction;

/** Counts and prints the answers that are not as due, and ends a test with exit code 1 if there was one. */
final class Check {
    // The nearest number on each side of the range, the ends of int, and numbers that would fit
    // if only their low bits, or only row * 16 + column, were looked at.
    static final int[] NOT_0_TO_15 = {-1, 16, 255, -256, 1 << 28, Integer.MIN_VALUE, Integer.MAX_VALUE};
    static final int[] NOT_0_TO_7 = {-1, 8, 15, 256, Integer.MIN_VALUE, Integer.MAX_VALUE};
    static final int[] NOT_0_TO_255 = {-1, 256, 511, -255, Integer.MIN_VALUE, Integer.MAX_VALUE};

    static final int[] FIRST_AND_LAST = {0, 15};

    private int wrong = 0;

    void due(String call, long got, long want) {
        if (got != want) {
            wrong++;
            System.out.println(call + " answered " + got + ", due is " + want);
        }
    }

    void end() {
        if (wrong != 0) {
            System.out.println(wrong + " answers are not as due");
            System.exit(1);
        }
    }

    /** A new object with these two rasters, after five calls at most. */
    static BoxFilters made(Picture raster, Picture spare) {
        BoxFilters x = new BoxFilters();
        spare.make(x);
        x.exchange();
        raster.make(x);
        return x;
    }

    /** A new object with two busy rasters, after five calls. */
    static BoxFilters busy() {
        return made(Picture.BUSY, Picture.OTHER);
    }

    /** Gives every pixel of a new object its value, in one call for each that is not 0 anyway. */
    static void fill(BoxFilters fresh, IntBinaryOperator value) {
        for (int r = 0; r < 16; r++) {
            for (int c = 0; c < 16; c++) {
                if (value.applyAsInt(r, c) != 0) {
                    fresh.set(r, c, value.applyAsInt(r, c));
                }
            }
        }
    }

    /** Looks at every pixel of the raster, in 256 calls. */
    void raster(String when, BoxFilters x, IntBinaryOperator want) {
        for (int r = 0; r < 16; r++) {
            for (int c = 0; c < 16; c++) {
                due(when + ": pixel(" + r + ", " + c + ")", x.pixel(r, c), want.applyAsInt(r, c));
            }
        }
    }

    /**
     * Makes the calls on two objects that start alike and looks at the raster of one and the spare raster of the
     * other: looking at both on one object would be more than the 512 calls that the document allows.
     */
    void bothRasters(
            String calls, Picture raster, Picture spare, Consumer<BoxFilters> run,
            IntBinaryOperator wantRaster, IntBinaryOperator wantSpare) {
        String start = raster + " over " + spare + ", " + calls;
        BoxFilters forRaster = made(raster, spare);
        run.accept(forRaster);
        raster(start + ", raster", forRaster, wantRaster);
        BoxFilters forSpare = made(raster, spare);
        run.accept(forSpare);
        forSpare.exchange();
        raster(start + ", spare", forSpare, wantSpare);
    }

    /** The same on two busy rasters. */
    void bothRasters(String calls, Consumer<BoxFilters> run, IntBinaryOperator wantRaster, IntBinaryOperator wantSpare) {
        bothRasters(calls, Picture.BUSY, Picture.OTHER, run, wantRaster, wantSpare);
    }

    /** The call gives this answer on these rasters and changes neither of them. */
    void changesNothing(String call, Picture raster, Picture spare, ToIntFunction<BoxFilters> made, int want) {
        String start = raster + " over " + spare + ", " + call;
        bothRasters(call, raster, spare, x -> due(start, made.applyAsInt(x), want), raster, spare);
    }

    /** The same on two busy rasters. */
    void changesNothing(String call, ToIntFunction<BoxFilters> made, int want) {
        changesNothing(call, Picture.BUSY, Picture.OTHER, made, want);
    }
}
