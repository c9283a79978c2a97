import java.lang.reflect.Method;
import java.nio.file.Files;
import java.nio.file.Path;
import java.util.Arrays;
import java.util.regex.Matcher;
import java.util.regex.Pattern;

/** The example of README.md: every call there answers what stands behind it. */
public final class ReadmeTest {
    private static final Check check = new Check();
    private static final Pattern TEXT = Pattern.compile("\"([^\"]+)\"\\.toCharArray\\(\\)");
    private static final Pattern CALL = Pattern.compile("x\\.(\\w+)\\(([-\\d, ]*)\\); *// (-?\\d+):");

    public static void main(String[] args) throws Exception {
        String readme = Files.readString(Path.of("README.md"));
        int from = readme.indexOf("```java"), to = readme.indexOf("```", from + 3);
        check.isSo("there is an example", from >= 0 && to > from);
        if (to > from) example(readme.substring(from, to));
        check.end();
    }

    private static void example(String code) throws Exception {
        WhiteWanted x = new WhiteWanted();
        Matcher text = TEXT.matcher(code);
        check.isSo("it has a text", text.find());
        Check.type(x, text.group(1));
        int calls = 0;
        for (Matcher call = CALL.matcher(code); call.find(); calls++) {
            int[] numbers = call.group(2).isEmpty() ? new int[0]
                : Arrays.stream(call.group(2).split(", ")).mapToInt(Integer::parseInt).toArray();
            check.due(call.group(), answer(x, call.group(1), numbers), Long.parseLong(call.group(3)));
        }
        check.due("every call has an answer", calls, code.split("\nx\\.").length - 1);
    }

    private static long answer(WhiteWanted x, String name, int[] numbers) throws Exception {
        Class<?>[] types = new Class<?>[numbers.length];
        Arrays.fill(types, int.class);
        Method method = WhiteWanted.class.getMethod(name, types);
        return ((Number) method.invoke(x, Arrays.stream(numbers).boxed().toArray())).longValue();
    }
}
