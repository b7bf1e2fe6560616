import java.lang.reflect.Constructor;
import java.lang.reflect.Field;
import java.lang.reflect.Method;
import java.lang.reflect.Modifier;
import java.util.Arrays;
import java.util.Set;
import java.util.TreeSet;

/** The public face of the document is there whole, and nothing else can be seen from outside. */
public final class FaceTest {
    private static final Set<String> FACE = Set.of(
        "public static final int BoxFilters.BAD_PIXEL",
        "public static final int BoxFilters.BAD_VALUE",
        "public static final int BoxFilters.BAD_SIZE",
        "public BoxFilters()",
        "public int BoxFilters.set(int,int,int)",
        "public void BoxFilters.pattern(int,int)",
        "public int BoxFilters.dilate(int,int)",
        "public int BoxFilters.erode(int,int)",
        "public int BoxFilters.open(int,int)",
        "public int BoxFilters.close(int,int)",
        "public int BoxFilters.mean(int,int)",
        "public int BoxFilters.threshold(int)",
        "public void BoxFilters.exchange()",
        "public void BoxFilters.keep()",
        "public int BoxFilters.pixel(int,int)",
        "public int BoxFilters.sum()",
        "public int BoxFilters.equal()",
        "public int BoxFilters.above()",
        "public int BoxFilters.patches()");

    public static void main(String[] args) {
        Check check = new Check();
        check.due("BAD_PIXEL", BoxFilters.BAD_PIXEL, -1);
        check.due("BAD_VALUE", BoxFilters.BAD_VALUE, -2);
        check.due("BAD_SIZE", BoxFilters.BAD_SIZE, -3);
        check.due("public and final", BoxFilters.class.getModifiers(), Modifier.PUBLIC | Modifier.FINAL);
        Set<String> seen = seenFromOutside();
        for (String member : FACE) {
            check.due(member + " is there", seen.contains(member) ? 1 : 0, 1);
        }
        for (String member : seen) {
            check.due(member + " is of the document", FACE.contains(member) ? 1 : 0, 1);
        }
        check.end();
    }

    private static Set<String> seenFromOutside() {
        Set<String> seen = new TreeSet<>();
        Arrays.stream(BoxFilters.class.getDeclaredFields())
            .filter(f -> !Modifier.isPrivate(f.getModifiers())).map(Field::toString).forEach(seen::add);
        Arrays.stream(BoxFilters.class.getDeclaredMethods())
            .filter(m -> !Modifier.isPrivate(m.getModifiers())).map(Method::toString).forEach(seen::add);
        Arrays.stream(BoxFilters.class.getDeclaredConstructors())
            .filter(c -> !Modifier.isPrivate(c.getModifiers())).map(Constructor::toString).forEach(seen::add);
        return seen;
    }
}
