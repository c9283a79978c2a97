import java.lang.reflect.Method;
import java.util.Arrays;
import java.util.Comparator;
import java.util.List;
import java.util.Map;
import java.util.Random;

/** All promises at once: any calls in any order, up to the 512 that an object is used for, against PaperWhite. */
public final class PaperWhiteTest {
    private static final Check check = new Check();
    private static final int RUNS = 150, CALLS = 512;
    /** Of each parameter the least and the most that are not refused on a TABLE of six BALLS. */
    private static final Map<String, int[][]> LIMITS = Map.ofEntries(
        Map.entry("letter", new int[][] {{1, 126}}),
        Map.entry("ball", new int[][] {{0, 6}, {0, 5}}),
        Map.entry("as", new int[][] {{0, 6}, {0, 4}}),
        Map.entry("cell", new int[][] {{0, 44}}),
        Map.entry("sees", new int[][] {{0, 7}}),
        Map.entry("put", new int[][] {{0, 6}, {0, 44}}),
        Map.entry("lift", new int[][] {{1, 6}}),
        Map.entry("change", new int[][] {{1, 6}, {0, 4}}),
        Map.entry("stroke", new int[][] {{0, 7}, {1, 9}, {0, 2}}),
        Map.entry("would", new int[][] {{0, 7}, {1, 9}, {0, 2}, {0, 15}}),
        Map.entry("best", new int[][] {{0, 3}}),
        Map.entry("plan", new int[][] {{0, 3}}),
        Map.entry("safe", new int[][] {{0, 3}}),
        Map.entry("wanted", new int[][] {{1, 6}}),
        Map.entry("see", new int[][] {{1, 6}, {0, 7}, {1, 9}, {-1, 44}}),
        Map.entry("frames", new int[][] {{1, 60}, {0, Integer.MAX_VALUE - 1}, {0, 2}}),
        Map.entry("count", new int[][] {{0, 13}}));
    /** These are worked out by thousands of strokes: asked more seldom, the test stays quick. */
    private static final List<String> DEAR = List.of("plan", "safe", "wanted", "digest", "best", "frames");
    /** Asked as often as the others, these would leave no time for a TABLE to be used. */
    private static final List<String> RARE = List.of("blank", "table", "forget", "letter");

    private final Random random;
    private final WhiteWanted x = new WhiteWanted();
    private final PaperWhite paper = new PaperWhite();
    private int calls;

    private PaperWhiteTest(int seed) {
        random = new Random(seed);
    }

    public static void main(String[] args) throws Exception {
        for (int seed = 0; seed < RUNS; seed++) new PaperWhiteTest(seed).run();
        check.end();
    }

    private void run() throws Exception {
        Method[] methods = WhiteWanted.class.getMethods();
        methods = Arrays.stream(methods).filter(m -> m.getDeclaringClass() == WhiteWanted.class)
            .sorted(Comparator.comparing(Method::getName)).toArray(Method[]::new);
        if (random.nextInt(8) > 0) readTable();
        while (calls < CALLS) {
            if (random.nextInt(120) == 0) readTable();
            Method method = methods[random.nextInt(methods.length)];
            String name = method.getName();
            if ((DEAR.contains(name) || RARE.contains(name)) && random.nextInt(5) > 0) continue;
            if (name.equals("see") && random.nextBoolean()) seeOneThatIsInSight();
            else ask(method, arguments(name));
        }
    }

    private void ask(Method method, int... arguments) throws Exception {
        if (calls++ >= CALLS) return;
        Method onPaper = PaperWhite.class.getDeclaredMethod(method.getName(), method.getParameterTypes());
        Object[] boxed = Arrays.stream(arguments).boxed().toArray();
        long due = ((Number) onPaper.invoke(paper, boxed)).longValue();
        String call = "call " + calls + ", " + method.getName() + Arrays.toString(arguments);
        check.due(call, ((Number) method.invoke(x, boxed)).longValue(), due);
    }

    private void ask(String name, int... arguments) throws Exception {
        Class<?>[] types = new Class<?>[arguments.length];
        Arrays.fill(types, int.class);
        ask(WhiteWanted.class.getMethod(name, types), arguments);
    }

    private int[] arguments(String name) {
        int[][] limits = LIMITS.getOrDefault(name, new int[0][]);
        int[] arguments = new int[limits.length];
        for (int number = 0; number < arguments.length; number++) {
            int least = limits[number][0], most = limits[number][1], luck = random.nextInt(60);
            if (luck == 0) arguments[number] = Check.ODD[random.nextInt(Check.ODD.length)];
            else if (luck == 1) arguments[number] = least - 1;
            else if (luck == 2) arguments[number] = most + 1;
            else arguments[number] = least + random.nextInt(most - least + 1);
        }
        return arguments;
    }

    /** A text of a TABLE, or now and then one with a letter changed, lost, or too many. */
    private void readTable() throws Exception {
        StringBuilder text = new StringBuilder(Check.randomText(random, 1 + random.nextInt(6)));
        int place = random.nextInt(text.length());
        char other = "0123456789;,bhldsx".charAt(random.nextInt(18));
        int luck = random.nextInt(8);
        if (luck == 0) text.setCharAt(place, other);
        if (luck == 1) text.deleteCharAt(place);
        if (luck == 2) text.append(other);
        if (random.nextInt(4) > 0) ask("blank");
        for (int i = 0; i < text.length(); i++) ask("letter", text.charAt(i));
        ask("fault");
        ask("table");
    }

    /** What is seen by chance fits no KIND: where the BALL would come to lie is taken from the paper here. */
    private void seeOneThatIsInSight() throws Exception {
        int direction = random.nextInt(8), strength = 1 + random.nextInt(9), ball = paper.sees(direction);
        if (ball <= 0) return;
        int was = paper.change(ball, random.nextInt(5));
        int cell = paper.would(direction, strength, 0, 9 + ball);
        paper.change(ball, was);
        ask("see", ball, direction, strength, cell);
        ask("ball", ball, 3);
        ask("ball", ball, 4);
    }
}
