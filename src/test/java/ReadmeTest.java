import java.io.IOException;
import java.lang.reflect.InvocationTargetException;
import java.lang.reflect.Method;
import java.lang.reflect.Modifier;
import java.nio.file.Files;
import java.nio.file.Path;
import java.util.ArrayList;
import java.util.List;
import java.util.regex.Matcher;
import java.util.regex.Pattern;

/** README.md: its examples answer what stands behind them, and it names each call and constant. */
public final class ReadmeTest {
    private static final Pattern FED = Pattern.compile("for \\(char c : \"(.*)\"\\.toCharArray\\(\\)\\) x\\.feed\\(c\\);");
    private static final Pattern CALL = Pattern.compile("x\\.(\\w+)\\(([^)]*)\\); +// (-?\\d+)\\b.*");
    private static final String MADE = "CamelParts x = new CamelParts();";

    private ReadmeTest() {
    }

    public static void main(String[] args) throws IOException, ReflectiveOperationException {
        String readme = Files.readString(Path.of("README.md"));
        Matcher example = Pattern.compile("(?s)```java\n(.*?)```").matcher(readme);
        int examples = 0;
        while (example.find()) {
            run(example.group(1).split("\n"));
            examples++;
        }
        Due.due("README.md has an example", Math.min(examples, 1), 1);
        names(readme);
        Due.finish();
    }

    private static void run(String[] lines) throws ReflectiveOperationException {
        CamelParts x = new CamelParts();
        Due.due("an example makes an object first: " + lines[0], lines[0].startsWith(MADE) ? 1 : 0, 1);
        for (int n = 1; n < lines.length; n++) {
            Matcher fed = FED.matcher(lines[n]);
            Matcher call = CALL.matcher(lines[n]);
            if (fed.matches()) {
                Due.fed(x, fed.group(1));
            } else if (call.matches()) {
                Due.due("README.md: " + lines[n], answer(x, call.group(1), numbers(call.group(2))), Long.parseLong(call.group(3)));
            } else {
                Due.due("a line that can be tried: " + lines[n], 0, 1);
            }
        }
    }

    private static List<Integer> numbers(String list) {
        List<Integer> found = new ArrayList<>();
        for (String one : list.split(",")) {
            if (!one.isBlank()) {
                found.add(Integer.parseInt(one.strip()));
            }
        }
        return found;
    }

    private static long answer(CamelParts x, String name, List<Integer> numbers)
            throws NoSuchMethodException, IllegalAccessException, InvocationTargetException {
        Class<?>[] types = new Class<?>[numbers.size()];
        java.util.Arrays.fill(types, int.class);
        return ((Number) CamelParts.class.getMethod(name, types).invoke(x, numbers.toArray())).longValue();
    }

    private static void names(String readme) {
        for (Method m : CamelParts.class.getDeclaredMethods()) {
            if (Modifier.isPublic(m.getModifiers())) {
                Matcher told = Pattern.compile("(?m)^\\|.*`" + m.getName() + "\\((\\w*(, \\w+)*)\\)`.*\\|.*\\|$").matcher(readme);
                boolean isTold = told.find();
                Due.due("README.md tells " + m.getName(), isTold ? 1 : 0, 1);
                int given = !isTold || told.group(1).isEmpty() ? 0 : told.group(1).split(",").length;
                Due.due("README.md: what " + m.getName() + " takes", given, m.getParameterCount());
            }
        }
        for (String constant : List.of("`BAD`, -1", "`STATE`, -2", "`FULL`, -3", "`NONE`, -4", ".ci/run")) {
            Due.due("README.md tells " + constant, readme.contains(constant) ? 1 : 0, 1);
        }
    }
}
