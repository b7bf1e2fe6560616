import java.util.function.Consumer;
import java.util.function.ToIntFunction;

/** "An object is used for at most 512 calls after it has been made": the 512th call is still answered as due. */
public final class CallLimitTest {
    private static final int CALLS_OF_BUSY = 5;
    private static final int CALLS_OF_ROUND = 11;
    // 5 + 46 * 11 calls are 511.
    private static final int ROUNDS = (511 - CALLS_OF_BUSY) / CALLS_OF_ROUND;

    private final Check check = new Check();

    public static void main(String[] args) {
        CallLimitTest limit = new CallLimitTest();
        limit.all512AreSets();
        limit.lastOfAllIsAFilter();
        limit.lastOfAllReadsOrIsRefused();
        limit.lastButOneAnswersNothing();
        limit.check.end();
    }

    /** Every pixel twice: the second time round it answers what was set the first time. */
    private void all512AreSets() {
        BoxFilters x = new BoxFilters();
        for (int i = 0; i < 512; i++) {
            int row = i / 16 % 16;
            int column = i % 16;
            int old = i < 256 ? 0 : 255 - (i - 256);
            check.due("call " + (i + 1) + ", a set", x.set(row, column, 255 - i % 256), old);
        }
    }

    private void lastOfAllIsAFilter() {
        int[][] raster = Model.busy().raster;
        last("dilate(1, 2)", x -> x.dilate(1, 2), Model.busy().become(Model.dilation(raster, 1, 2)));
        last("erode(7, 7)", x -> x.erode(7, 7), Model.busy().become(Model.erosion(raster, 7, 7)));
        last("open(1, 1)", x -> x.open(1, 1), Model.busy().become(Model.opening(raster, 1, 1)));
        last("close(1, 1)", x -> x.close(1, 1), Model.busy().become(Model.closing(raster, 1, 1)));
        last("mean(7, 0)", x -> x.mean(7, 0), Model.busy().become(Model.mean(raster, 7, 0)));
        last("threshold(128)", x -> x.threshold(128), Model.busy().threshold(128));
    }

    private void lastOfAllReadsOrIsRefused() {
        last("set(0, 0, 1)", x -> x.set(0, 0, 1), 201);
        last("set(0, 0, 256)", x -> x.set(0, 0, 256), BoxFilters.BAD_VALUE);
        last("dilate(8, 0)", x -> x.dilate(8, 0), BoxFilters.BAD_SIZE);
        last("pixel(0, 0)", x -> x.pixel(0, 0), 201);
        last("pixel(16, 0)", x -> x.pixel(16, 0), BoxFilters.BAD_PIXEL);
        last("sum()", BoxFilters::sum, Model.busy().sum());
        last("equal()", BoxFilters::equal, Model.busy().equal());
        last("above()", BoxFilters::above, Model.busy().above());
        last("patches()", BoxFilters::patches, Model.busy().patches());
    }

    /** Of these the 511th call is the last one whose work can still be seen. */
    private void lastButOneAnswersNothing() {
        lastTwo("pattern(3, 4) and pixel(15, 14)", x -> x.pattern(3, 4), x -> x.pixel(15, 14), (45 + 56 + 210) & 255);
        lastTwo("exchange() and pixel(0, 0)", BoxFilters::exchange, x -> x.pixel(0, 0), 102);
        lastTwo("keep() and equal()", BoxFilters::keep, BoxFilters::equal, 256);
    }

    private void last(String name, ToIntFunction<BoxFilters> call, int want) {
        BoxFilters x = Check.busy();
        for (int round = 0; round < ROUNDS; round++) {
            idleRound(x);
        }
        check.due("call 512, " + name, call.applyAsInt(x), want);
    }

    /** Here 10 idle calls make room for the one that answers nothing. */
    private void lastTwo(String name, Consumer<BoxFilters> first, ToIntFunction<BoxFilters> second, int want) {
        BoxFilters x = Check.busy();
        for (int round = 0; round < ROUNDS - 1; round++) {
            idleRound(x);
        }
        for (int i = 0; i < CALLS_OF_ROUND - 1; i++) {
            x.sum();
        }
        first.accept(x);
        check.due("calls 511 and 512, " + name, second.applyAsInt(x), want);
    }

    /** Eleven calls of all kinds that leave both rasters as they were. */
    private static void idleRound(BoxFilters x) {
        x.exchange();
        x.exchange();
        x.dilate(0, 0);
        x.erode(0, 0);
        x.open(0, 0);
        x.close(0, 0);
        x.mean(0, 0);
        x.set(15, 15, -1);
        x.equal();
        x.above();
        x.patches();
    }
}
