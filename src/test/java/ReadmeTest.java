import java.io.IOException;
import java.lang.reflect.Modifier;
import java.nio.file.Files;
import java.nio.file.Path;
import java.util.Arrays;
import java.util.List;
import java.util.regex.Matcher;
import java.util.regex.Pattern;
import java.util.stream.Collectors;

/** README.md tells each call of the public face, and the answers in its example are the ones that the class gives. */
public final class ReadmeTest {
    private static final Pattern EXAMPLE = Pattern.compile("(?m)^x\\.(\\w+)\\((.*?)\\); *//(?:.*?answers (-?\\d+))?");
    private static final Pattern ROW = Pattern.compile("(?m)^\\| `((?:int|void) \\w+\\(.*?\\))` \\|");

    private final Check check = new Check();
    private final String readme;

    private ReadmeTest(String readme) {
        this.readme = readme;
    }

    public static void main(String[] args) throws IOException, ReflectiveOperationException {
        ReadmeTest test = new ReadmeTest(Files.readString(Path.of("README.md")));
        test.exampleHolds();
        test.tableTellsEachCall();
        test.check.end();
    }

    private void exampleHolds() throws ReflectiveOperationException {
        BoxFilters x = new BoxFilters();
        Matcher line = EXAMPLE.matcher(readme);
        int answers = 0;
        while (line.find()) {
            Object got = answer(x, line.group(1), line.group(2));
            if (line.group(3) != null) {
                answers++;
                check.due("README.md: " + line.group(), (Integer) got, Integer.parseInt(line.group(3)));
            }
        }
        check.due("README.md: answers in its example", answers, 7);
    }

    private static Object answer(BoxFilters x, String name, String list) throws ReflectiveOperationException {
        Object[] numbers = Pattern.compile("-?\\d+").matcher(list).results().map(n -> Integer.valueOf(n.group())).toArray();
        Class<?>[] types = new Class<?>[numbers.length];
        Arrays.fill(types, int.class);
        return BoxFilters.class.getMethod(name, types).invoke(x, numbers);
    }

    private void tableTellsEachCall() {
        List<String> told = ROW.matcher(readme).results()
            .map(row -> row.group(1).replaceAll("int \\w+([,)])", "int$1").replace(", ", ","))
            .sorted().collect(Collectors.toList());
        List<String> calls = Arrays.stream(BoxFilters.class.getDeclaredMethods())
            .filter(method -> Modifier.isPublic(method.getModifiers()))
            .map(method -> method.toString().replace("public ", "").replace("BoxFilters.", ""))
            .sorted().collect(Collectors.toList());
        check.due("README.md: " + told + " are the calls " + calls, told.equals(calls) ? 1 : 0, 1);
    }
}
