import java.util.function.IntBinaryOperator;

/** Promise 16. */
public final class PatchesTest {
    private static final String[] SPIRAL = {
        "################",
        "...............#",
        "##############.#",
        "#............#.#",
        "#.##########.#.#",
        "#.#........#.#.#",
        "#.#.######.#.#.#",
        "#.#.#....#.#.#.#",
        "#.#.#.##.#.#.#.#",
        "#.#.#.####.#.#.#",
        "#.#.#......#.#.#",
        "#.#.########.#.#",
        "#.#..........#.#",
        "#.############.#",
        "#..............#",
        "################",
    };

    private static final String[] RINGS_AND_DOTS = {
        "#..............#",
        "..####....####..",
        "..#..#....#..#..",
        "..#..#....#.##..",
        "..####....##....",
        "......#.....#...",
        ".......#........",
        "........#.......",
        "#######.########",
        "................",
        "###.###.###.###.",
        "..#.#.#.#.#.#.#.",
        "..###.###.###.##",
        "................",
        ".#.............#",
        "#..............#",
    };

    public static void main(String[] args) {
        Check check = new Check();
        counts(check, "zeros", (r, c) -> 0, 0);
        counts(check, "ones", (r, c) -> 1, 1);
        counts(check, "255s", (r, c) -> 255, 1);
        counts(check, "values that differ", (r, c) -> 1 + r * 15 + c, 1);
        counts(check, "chessboard", (r, c) -> (r + c) % 2 * 255, 128);
        counts(check, "other chessboard", (r, c) -> (r + c + 1) % 2, 128);
        counts(check, "diagonal", (r, c) -> r == c ? 1 : 0, 16);
        counts(check, "other diagonal", (r, c) -> r + c == 15 ? 1 : 0, 16);
        counts(check, "stripes along rows", (r, c) -> r % 2, 8);
        counts(check, "stripes along columns", (r, c) -> c % 2, 8);
        counts(check, "comb from above", (r, c) -> r == 0 || c % 2 == 0 ? 9 : 0, 1);
        counts(check, "comb from below", (r, c) -> r == 15 || c % 2 == 0 ? 9 : 0, 1);
        counts(check, "comb from the right", (r, c) -> c == 15 || r % 2 == 0 ? 9 : 0, 1);
        counts(check, "four corners", (r, c) -> r % 15 == 0 && c % 15 == 0 ? 1 : 0, 4);
        counts(check, "last and first columns", (r, c) -> c % 15 == 0 ? 1 : 0, 2);
        counts(check, "last and first rows", (r, c) -> r % 15 == 0 ? 1 : 0, 2);
        counts(check, "end of a row and start of the next", (r, c) -> r == 3 && c == 15 || r == 4 && c == 0 ? 1 : 0, 2);
        counts(check, "snake", PatchesTest::snake, 1);
        counts(check, "spiral", drawn(SPIRAL), 1);
        counts(check, "rings and dots", drawn(RINGS_AND_DOTS), 13);
        looksAtTheRasterAlone(check);
        check.changesNothing("patches()", BoxFilters::patches, Model.busy().patches());
        check.end();
    }

    private static void counts(Check check, String name, IntBinaryOperator value, int want) {
        BoxFilters x = new BoxFilters();
        Check.fill(x, value);
        check.due(name + ": patches()", x.patches(), want);
        check.due(name + ": patches() again", x.patches(), want);
    }

    private static IntBinaryOperator drawn(String[] rows) {
        return (r, c) -> rows[r].charAt(c) == '#' ? 1 : 0;
    }

    /** Full rows that are joined at the right and at the left in turn. */
    private static int snake(int r, int c) {
        return r % 2 == 0 || c == (r % 4 == 1 ? 15 : 0) ? 200 : 0;
    }

    private static void looksAtTheRasterAlone(Check check) {
        BoxFilters x = new BoxFilters();
        x.set(4, 4, 1);
        x.set(4, 6, 1);
        check.due("two dots: patches()", x.patches(), 2);
        x.exchange();
        check.due("two dots in the spare raster: patches()", x.patches(), 0);
        x.exchange();
        x.set(4, 5, 1);
        check.due("two dots joined: patches()", x.patches(), 1);
    }
}
