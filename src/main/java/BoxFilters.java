public final class BoxFilters {
    public static final int BAD_PIXEL = -1;
    public static final int BAD_VALUE = -2;
    public static final int BAD_SIZE = -3;

    private static final int SIDE = 16;
    private static final int LAST = SIDE - 1;
    private static final int PIXELS = SIDE * SIDE;
    private static final int GREATEST_VALUE = 255;
    private static final int GREATEST_HALF = 7;

    private static final int NO_PASS = 0;
    private static final int DILATION = 1;
    private static final int EROSION = 2;
    private static final int MEAN = 3;

    // All rasters lie row after row; a pixel's place is row * SIDE + column.
    private final int[] raster = new int[PIXELS];
    private final int[] spare = new int[PIXELS];

    // An opening or closing answers against the raster ahead of both its
    // passes, so that one is held apart from the source of a single pass.
    private final int[] beforeFilter = new int[PIXELS];
    private final int[] passSource = new int[PIXELS];

    private final boolean[] reached = new boolean[PIXELS];
    private final int[] waiting = new int[PIXELS];
    private int waitingCount;

    public BoxFilters() {
        // Java makes arrays full of 0, which is the state that is due.
    }

    public int set(int row, int column, int value) {
        if (isNoPixel(row, column)) {
            return BAD_PIXEL;
        }
        if (isOutside(value, GREATEST_VALUE)) {
            return BAD_VALUE;
        }
        int place = row * SIDE + column;
        int old = raster[place];
        raster[place] = value;
        return old;
    }

    public void pattern(int a, int b) {
        for (int row = 0; row < SIDE; row++) {
            for (int column = 0; column < SIDE; column++) {
                int value = row * a + column * b + row * column;
                raster[row * SIDE + column] = value & GREATEST_VALUE;
            }
        }
    }

    public int dilate(int w, int h) {
        return filter(DILATION, NO_PASS, w, h);
    }

    public int erode(int w, int h) {
        return filter(EROSION, NO_PASS, w, h);
    }

    public int open(int w, int h) {
        return filter(EROSION, DILATION, w, h);
    }

    public int close(int w, int h) {
        return filter(DILATION, EROSION, w, h);
    }

    public int mean(int w, int h) {
        return filter(MEAN, NO_PASS, w, h);
    }

    public int threshold(int bound) {
        int bright = 0;
        for (int place = 0; place < PIXELS; place++) {
            if (raster[place] >= bound) {
                raster[place] = GREATEST_VALUE;
                bright++;
            } else {
                raster[place] = 0;
            }
        }
        return bright;
    }

    public void exchange() {
        for (int place = 0; place < PIXELS; place++) {
            int value = raster[place];
            raster[place] = spare[place];
            spare[place] = value;
        }
    }

    public void keep() {
        copy(raster, spare);
    }

    public int pixel(int row, int column) {
        if (isNoPixel(row, column)) {
            return BAD_PIXEL;
        }
        return raster[row * SIDE + column];
    }

    public int sum() {
        int total = 0;
        for (int place = 0; place < PIXELS; place++) {
            total += raster[place];
        }
        return total;
    }

    public int equal() {
        return PIXELS - differences(raster, spare);
    }

    public int above() {
        int greater = 0;
        for (int place = 0; place < PIXELS; place++) {
            if (raster[place] > spare[place]) {
                greater++;
            }
        }
        return greater;
    }

    public int patches() {
        for (int place = 0; place < PIXELS; place++) {
            reached[place] = false;
        }
        int found = 0;
        for (int place = 0; place < PIXELS; place++) {
            if (raster[place] > 0 && !reached[place]) {
                found++;
                reachPatch(place / SIDE, place % SIDE);
            }
        }
        return found;
    }

    private static boolean isOutside(int number, int greatest) {
        return number < 0 || number > greatest;
    }

    private static boolean isNoPixel(int row, int column) {
        return isOutside(row, LAST) || isOutside(column, LAST);
    }

    private static void copy(int[] from, int[] to) {
        for (int place = 0; place < PIXELS; place++) {
            to[place] = from[place];
        }
    }

    private static int differences(int[] one, int[] other) {
        int count = 0;
        for (int place = 0; place < PIXELS; place++) {
            if (one[place] != other[place]) {
                count++;
            }
        }
        return count;
    }

    private int filter(int firstPass, int secondPass, int w, int h) {
        if (isOutside(w, GREATEST_HALF) || isOutside(h, GREATEST_HALF)) {
            return BAD_SIZE;
        }
        copy(raster, beforeFilter);
        pass(firstPass, w, h);
        if (secondPass != NO_PASS) {
            pass(secondPass, w, h);
        }
        return differences(raster, beforeFilter);
    }

    private void pass(int kind, int w, int h) {
        copy(raster, passSource);
        for (int row = 0; row < SIDE; row++) {
            for (int column = 0; column < SIDE; column++) {
                raster[row * SIDE + column] = windowValue(kind, row, column, w, h);
            }
        }
    }

    private int windowValue(int kind, int row, int column, int w, int h) {
        int bottom = windowEnd(row, h);
        int right = windowEnd(column, w);
        int greatest = 0;
        int least = GREATEST_VALUE;
        int total = 0;
        int count = 0;
        for (int r = windowStart(row, h); r <= bottom; r++) {
            for (int c = windowStart(column, w); c <= right; c++) {
                int value = passSource[r * SIDE + c];
                greatest = value > greatest ? value : greatest;
                least = value < least ? value : least;
                total += value;
                count++;
            }
        }
        if (kind == DILATION) {
            return greatest;
        }
        if (kind == EROSION) {
            return least;
        }
        return count > 0 ? total / count : 0;
    }

    private static int windowStart(int centre, int half) {
        return centre > half ? centre - half : 0;
    }

    private static int windowEnd(int centre, int half) {
        return centre + half < LAST ? centre + half : LAST;
    }

    private void reachPatch(int row, int column) {
        waitingCount = 0;
        reach(row, column);
        // No pixel waits twice, so PIXELS bounds the queue while it grows.
        for (int next = 0; next < PIXELS && next < waitingCount; next++) {
            int r = waiting[next] / SIDE;
            int c = waiting[next] % SIDE;
            reach(r - 1, c);
            reach(r + 1, c);
            reach(r, c - 1);
            reach(r, c + 1);
        }
    }

    private void reach(int row, int column) {
        if (isNoPixel(row, column) || waitingCount >= PIXELS) {
            return;
        }
        int place = row * SIDE + column;
        if (raster[place] > 0 && !reached[place]) {
            reached[place] = true;
            waiting[waitingCount] = place;
            waitingCount++;
        }
    }
}
