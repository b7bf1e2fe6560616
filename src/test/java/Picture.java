import java.util.function.IntBinaryOperator;

/** Whole rasters that tests start from; each is made in two calls at most, and tells the value of each pixel. */
enum Picture implements IntBinaryOperator {
    ZEROS {
        @Override
        void make(BoxFilters x) {
            x.threshold(256);
        }

        @Override
        public int applyAsInt(int row, int column) {
            return 0;
        }
    },
    FULL {
        @Override
        void make(BoxFilters x) {
            x.threshold(0);
        }

        @Override
        public int applyAsInt(int row, int column) {
            return 255;
        }
    },
    // Two pictures that differ at many pixels, so that a lost or mixed-up value shows;
    // every pattern has 0 at (0, 0), so that pixel is given a value of its own.
    BUSY {
        @Override
        void make(BoxFilters x) {
            x.pattern(37, 11);
            x.set(0, 0, 201);
        }

        @Override
        public int applyAsInt(int row, int column) {
            return row + column == 0 ? 201 : (row * 37 + column * 11 + row * column) & 255;
        }
    },
    OTHER {
        @Override
        void make(BoxFilters x) {
            x.pattern(5, 91);
            x.set(0, 0, 102);
        }

        @Override
        public int applyAsInt(int row, int column) {
            return row + column == 0 ? 102 : (row * 5 + column * 91 + row * column) & 255;
        }
    };

    abstract void make(BoxFilters x);

    interface PairTest {
        void on(Picture raster, Picture spare);
    }

    /** Every picture as the raster with every picture as the spare one, so also two that are the same. */
    static void forAllPairs(PairTest test) {
        for (Picture raster : values()) {
            for (Picture spare : values()) {
                test.on(raster, spare);
            }
        }
    }
}
