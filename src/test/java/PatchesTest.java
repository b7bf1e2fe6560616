import java.util.function.IntBinaryOperator;

/** Promise 16. */
public final class PatchesTest {
    private static final String[] SPIRAL = {
        "################",
        "...............#",
        "##############.#",
        "#............#.#",
        "#.##########.#.#",
        "#.#........#.#.#",
        "#.#.######.#.#.#",
        "#.#.#....#.#.#.#",
        "#.#.#.##.#.#.#.#",
        "#.#.#.####.#.#.#",
        "#.#.#......#.#.#",
        "#.#.########.#.#",
        "#.#..........#.#",
        "#.############.#",
        "#..............#",
        "################",
    };

    private static final String[] RINGS_AND_DOTS = {
        "#..............#",
        "..####....####..",
        "..#..#....#..#..",
        "..#..#....#.##..",
        "..####....##....",
        "......#.....#...",
        ".......#........",
        "........#.......",
        "#######.########",
        "................",
        "###.###.###.###.",
        "..#.#.#.#.#.#.#.",
        "..###.###.###.##",
        "................",
        ".#.............#",
        "#..............#",
    };

    public static void main(String[] args) {
        Check check = new Check();
        noneAndAll(check);
        pixelsThatTouchByCornersAlone(check);
        farEndsThatTouchByCornersAlone(check);
        everyPixelAlone(check);
        everyTwoPixels(check);
        everyValueAbove0(check);
        asLargeAsPossible(check);
        rowsDoNotGoOnInTheNext(check);
        looksAtTheRasterAlone(check);
        Picture.forAllPairs((raster, spare) -> ofPictures(check, raster, spare));
        check.end();
    }

    private static void noneAndAll(Check check) {
        counts(check, "zeros", (r, c) -> 0, 0);
        counts(check, "ones", (r, c) -> 1, 1);
        counts(check, "255s", (r, c) -> 255, 1);
        counts(check, "values that differ", (r, c) -> 1 + r * 15 + c, 1);
    }

    private static void pixelsThatTouchByCornersAlone(Check check) {
        counts(check, "chessboard", (r, c) -> (r + c) % 2 * 255, 128);
        counts(check, "other chessboard", (r, c) -> (r + c + 1) % 2, 128);
        counts(check, "diagonal", (r, c) -> r == c ? 1 : 0, 16);
        counts(check, "other diagonal", (r, c) -> r + c == 15 ? 1 : 0, 16);
        counts(check, "quarters by a corner", (r, c) -> r < 8 == c < 8 ? 1 : 0, 2);
        counts(check, "other quarters by a corner", (r, c) -> r < 8 == c < 8 ? 0 : 1, 2);
        counts(check, "quarters joined by one pixel", (r, c) -> r < 8 == c < 8 || r == 7 && c == 8 ? 1 : 0, 1);
    }

    /**
     * Far from where a set begins its pixels touch others by a corner, or lie at the other end of a row or column;
     * turned and mirrored, since a search that goes through the rows in turn may err in one direction alone.
     */
    private static void farEndsThatTouchByCornersAlone(Check check) {
        countsAllWays(check, "hook with a dot by its end",
            (r, c) -> r <= 4 && c == 6 || r == 4 && c >= 3 && c <= 6 || r == 3 && c == 2 ? 1 : 0, 2);
        countsAllWays(check, "two sides with a dot across",
            (r, c) -> c == 0 || r == 15 && c <= 5 || r == 0 && c == 5 ? 1 : 0, 2);
        countsAllWays(check, "start of a row with a dot at the end of the one before",
            (r, c) -> r <= 5 && c == 0 || r == 4 && c == 15 ? 1 : 0, 2);
    }

    private static void countsAllWays(Check check, String name, IntBinaryOperator value, int want) {
        IntBinaryOperator turned = (r, c) -> value.applyAsInt(c, r);
        countsMirrored(check, name, value, want);
        countsMirrored(check, name + ", rows as columns", turned, want);
    }

    private static void countsMirrored(Check check, String name, IntBinaryOperator value, int want) {
        counts(check, name, value, want);
        counts(check, name + ", upside down", (r, c) -> value.applyAsInt(15 - r, c), want);
        counts(check, name + ", left to right", (r, c) -> value.applyAsInt(r, 15 - c), want);
        counts(check, name + ", both mirrored", (r, c) -> value.applyAsInt(15 - r, 15 - c), want);
    }

    private static void everyPixelAlone(Check check) {
        for (int i = 0; i < 256; i++) {
            BoxFilters dot = new BoxFilters();
            dot.set(i / 16, i % 16, 1);
            check.due("dot at (" + i / 16 + ", " + i % 16 + "): patches()", dot.patches(), 1);
            BoxFilters hole = new BoxFilters();
            hole.threshold(0);
            hole.set(i / 16, i % 16, 0);
            check.due("hole at (" + i / 16 + ", " + i % 16 + "): patches()", hole.patches(), 1);
        }
    }

    /** "hang together by their sides": two pixels are one set if they lie one row or one column apart, else two. */
    private static void everyTwoPixels(Check check) {
        for (int i = 0; i < 256; i++) {
            for (int j = i + 1; j < 256; j++) {
                int apart = Math.abs(i / 16 - j / 16) + Math.abs(i % 16 - j % 16);
                BoxFilters x = new BoxFilters();
                x.set(i / 16, i % 16, 1);
                x.set(j / 16, j % 16, 255);
                check.due("dots at places " + i + " and " + j + ": patches()", x.patches(), apart == 1 ? 1 : 2);
            }
        }
    }

    /** "values above 0": 1 is the least of them, and values that differ hang together like others. */
    private static void everyValueAbove0(Check check) {
        for (int value = 0; value <= 255; value++) {
            BoxFilters x = new BoxFilters();
            x.set(9, 9, 255);
            x.set(9, 10, value);
            x.set(9, 11, 1);
            check.due("255, " + value + ", 1 in a row: patches()", x.patches(), value > 0 ? 1 : 2);
            x.set(9, 9, 0);
            x.set(9, 11, 0);
            check.due(value + " alone: patches()", x.patches(), value > 0 ? 1 : 0);
        }
    }

    private static void asLargeAsPossible(Check check) {
        counts(check, "comb from above", (r, c) -> r == 0 || c % 2 == 0 ? 9 : 0, 1);
        counts(check, "comb from below", (r, c) -> r == 15 || c % 2 == 0 ? 9 : 0, 1);
        counts(check, "comb from the left", (r, c) -> c == 0 || r % 2 == 0 ? 9 : 0, 1);
        counts(check, "comb from the right", (r, c) -> c == 15 || r % 2 == 0 ? 9 : 0, 1);
        counts(check, "stripes along rows", (r, c) -> r % 2, 8);
        counts(check, "stripes along columns", (r, c) -> c % 2, 8);
        countsAllWays(check, "snake", PatchesTest::snake, 1);
        countsAllWays(check, "spiral", drawn(SPIRAL), 1);
        countsAllWays(check, "rings and dots", drawn(RINGS_AND_DOTS), 13);
    }

    private static void rowsDoNotGoOnInTheNext(Check check) {
        counts(check, "four corners", (r, c) -> r % 15 == 0 && c % 15 == 0 ? 1 : 0, 4);
        counts(check, "last and first columns", (r, c) -> c % 15 == 0 ? 1 : 0, 2);
        counts(check, "last and first rows", (r, c) -> r % 15 == 0 ? 1 : 0, 2);
        counts(check, "end of a row and start of the next", (r, c) -> r == 3 && c == 15 || r == 4 && c == 0 ? 1 : 0, 2);
    }

    private static void ofPictures(Check check, Picture raster, Picture spare) {
        check.changesNothing("patches()", raster, spare, BoxFilters::patches, Model.made(raster, spare).patches());
    }

    private static void counts(Check check, String name, IntBinaryOperator value, int want) {
        BoxFilters x = new BoxFilters();
        Check.fill(x, value);
        check.due(name + ": patches()", x.patches(), want);
        check.due(name + ": patches() again", x.patches(), want);
    }

    private static IntBinaryOperator drawn(String[] rows) {
        return (r, c) -> rows[r].charAt(c) == '#' ? 1 : 0;
    }

    /** Full rows that are joined at the right and at the left in turn. */
    private static int snake(int r, int c) {
        return r % 2 == 0 || c == (r % 4 == 1 ? 15 : 0) ? 200 : 0;
    }

    private static void looksAtTheRasterAlone(Check check) {
        BoxFilters x = new BoxFilters();
        x.set(4, 4, 1);
        x.set(4, 6, 1);
        check.due("two dots: patches()", x.patches(), 2);
        x.exchange();
        check.due("two dots in the spare raster: patches()", x.patches(), 0);
        x.exchange();
        x.set(4, 5, 1);
        check.due("two dots joined: patches()", x.patches(), 1);
    }
}
