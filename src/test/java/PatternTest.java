/** Promise 3. */
public final class PatternTest {
    private static final int[] FACTORS = {
        0, 1, -1, 9, 100, -77, 255, 256, 257, -256, 65_536, 123_456_789,
        Integer.MAX_VALUE - 1, Integer.MAX_VALUE, Integer.MIN_VALUE, Integer.MIN_VALUE + 1
    };

    public static void main(String[] args) {
        Check check = new Check();
        knownPixels(check);
        goesRoundAt256(check);
        goesRoundBelow0(check);
        takesTheGreatestAndTheLeastInt(check);
        rowsAndColumnsAreToldApart(check);
        for (int a : FACTORS) {
            for (int b : FACTORS) {
                allPixels(check, a, b);
            }
        }
        check.end();
    }

    private static void knownPixels(Check check) {
        givesPixel(check, 10, 20, 0, 0, 0);
        givesPixel(check, 10, 20, 1, 0, 10);
        givesPixel(check, 10, 20, 0, 1, 20);
        givesPixel(check, 10, 20, 2, 3, 86);
        givesPixel(check, 10, 20, 15, 15, 675 - 512);
        givesPixel(check, 0, 0, 15, 15, 225);
    }

    /** "& 255": 255 stays, 256 is 0, 257 is 1. */
    private static void goesRoundAt256(Check check) {
        givesPixel(check, 255, 0, 1, 0, 255);
        givesPixel(check, 256, 0, 1, 0, 0);
        givesPixel(check, 257, 0, 1, 0, 1);
        givesPixel(check, 0, 255, 0, 1, 255);
        givesPixel(check, 0, 256, 0, 1, 0);
        givesPixel(check, 0, 257, 0, 1, 1);
        givesPixel(check, 2, 0, 15, 15, 255);
        givesPixel(check, 1, 1, 15, 15, 255);
        givesPixel(check, 2, 1, 15, 15, 14);
        givesPixel(check, 12, 12, 8, 8, 0);
    }

    private static void goesRoundBelow0(Check check) {
        givesPixel(check, -1, 0, 1, 0, 255);
        givesPixel(check, 0, -1, 0, 1, 255);
        givesPixel(check, -1, -1, 1, 1, 255);
        givesPixel(check, -255, 0, 1, 0, 1);
        givesPixel(check, -256, 0, 1, 0, 0);
        givesPixel(check, -257, 0, 1, 0, 255);
    }

    /** "(wrapping)": sums and products beyond the ends of int keep their low bits. */
    private static void takesTheGreatestAndTheLeastInt(Check check) {
        int greatest = Integer.MAX_VALUE;
        int least = Integer.MIN_VALUE;
        givesPixel(check, greatest, 0, 1, 0, 255);
        givesPixel(check, greatest, 0, 2, 0, 254);
        givesPixel(check, greatest, greatest, 1, 1, 255);
        givesPixel(check, greatest, greatest, 15, 15, 195);
        givesPixel(check, least, 0, 1, 0, 0);
        givesPixel(check, least, least, 1, 1, 1);
        givesPixel(check, least, least, 15, 15, 225);
        givesPixel(check, least, greatest, 1, 1, 0);
        givesPixel(check, greatest, least, 15, 15, 210);
    }

    private static void givesPixel(Check check, int a, int b, int row, int column, int want) {
        BoxFilters x = new BoxFilters();
        x.threshold(0);
        x.pattern(a, b);
        String call = "pattern(" + a + ", " + b + "): pixel(" + row + ", " + column + ")";
        check.due(call, x.pixel(row, column), want);
    }

    private static void rowsAndColumnsAreToldApart(Check check) {
        check.bothRasters("pattern(1, 0)", x -> x.pattern(1, 0), (r, c) -> (r + r * c) & 255, Picture.OTHER);
        check.bothRasters("pattern(0, 1)", x -> x.pattern(0, 1), (r, c) -> (c + r * c) & 255, Picture.OTHER);
    }

    private static void allPixels(Check check, int a, int b) {
        Model model = new Model();
        model.pattern(a, b);
        String call = "pattern(" + a + ", " + b + ")";
        check.bothRasters(call, x -> x.pattern(a, b), (r, c) -> model.raster[r][c], Picture.OTHER);
    }
}
