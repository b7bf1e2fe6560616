import java.util.LinkedHashMap;
import java.util.Map;
import java.util.function.ToIntFunction;

/** "a refused call changes nothing": neither raster, whatever stands in them, and so no later answer either. */
public final class RefusedTest {
    private static final Map<String, ToIntFunction<BoxFilters>> BAD_PIXEL = new LinkedHashMap<>();
    private static final Map<String, ToIntFunction<BoxFilters>> BAD_VALUE = new LinkedHashMap<>();
    private static final Map<String, ToIntFunction<BoxFilters>> BAD_SIZE = new LinkedHashMap<>();

    static {
        BAD_PIXEL.put("set(-1, 0, 9)", x -> x.set(-1, 0, 9));
        BAD_PIXEL.put("set(16, 15, 9)", x -> x.set(16, 15, 9));
        BAD_PIXEL.put("set(15, -1, 9)", x -> x.set(15, -1, 9));
        BAD_PIXEL.put("set(0, 16, 9)", x -> x.set(0, 16, 9));
        BAD_PIXEL.put("set(16, 16, 256)", x -> x.set(16, 16, 256));
        BAD_PIXEL.put("pixel(-1, 15)", x -> x.pixel(-1, 15));
        BAD_PIXEL.put("pixel(16, 0)", x -> x.pixel(16, 0));
        BAD_PIXEL.put("pixel(15, -1)", x -> x.pixel(15, -1));
        BAD_PIXEL.put("pixel(0, 16)", x -> x.pixel(0, 16));
        BAD_VALUE.put("set(0, 0, -1)", x -> x.set(0, 0, -1));
        BAD_VALUE.put("set(15, 15, 256)", x -> x.set(15, 15, 256));
        putBadSizes("dilate", BoxFilters::dilate);
        putBadSizes("erode", BoxFilters::erode);
        putBadSizes("open", BoxFilters::open);
        putBadSizes("close", BoxFilters::close);
        putBadSizes("mean", BoxFilters::mean);
    }

    private static void putBadSizes(String name, FilterCheck.Filter filter) {
        BAD_SIZE.put(name + "(-1, 7)", x -> filter.apply(x, -1, 7));
        BAD_SIZE.put(name + "(8, 7)", x -> filter.apply(x, 8, 7));
        BAD_SIZE.put(name + "(7, -1)", x -> filter.apply(x, 7, -1));
        BAD_SIZE.put(name + "(7, 8)", x -> filter.apply(x, 7, 8));
    }

    public static void main(String[] args) {
        Check check = new Check();
        Picture.forAllPairs((raster, spare) -> areRefused(check, raster, spare));
        Picture.forAllPairs((raster, spare) -> laterAnswersAreTheSame(check, raster, spare));
        check.end();
    }

    private static void areRefused(Check check, Picture raster, Picture spare) {
        BAD_PIXEL.forEach((name, call) -> check.changesNothing(name, raster, spare, call, BoxFilters.BAD_PIXEL));
        BAD_VALUE.forEach((name, call) -> check.changesNothing(name, raster, spare, call, BoxFilters.BAD_VALUE));
        BAD_SIZE.forEach((name, call) -> check.changesNothing(name, raster, spare, call, BoxFilters.BAD_SIZE));
    }

    private static void laterAnswersAreTheSame(Check check, Picture raster, Picture spare) {
        BoxFilters x = Check.made(raster, spare);
        Model model = Model.made(raster, spare);
        BAD_PIXEL.values().forEach(call -> call.applyAsInt(x));
        BAD_VALUE.values().forEach(call -> call.applyAsInt(x));
        BAD_SIZE.values().forEach(call -> call.applyAsInt(x));
        String when = raster + " over " + spare + ", after refused calls: ";
        check.due(when + "sum()", x.sum(), model.sum());
        check.due(when + "equal()", x.equal(), model.equal());
        check.due(when + "above()", x.above(), model.above());
        check.due(when + "patches()", x.patches(), model.patches());
        check.due(when + "open(1, 2)", x.open(1, 2), model.become(Model.opening(model.raster, 1, 2)));
        check.due(when + "mean(7, 7)", x.mean(7, 7), model.become(Model.mean(model.raster, 7, 7)));
    }
}
