import java.lang.reflect.Method;
import java.util.ArrayList;
import java.util.Arrays;
import java.util.Comparator;
import java.util.List;
import java.util.Random;

/** All promises: many runs of calls, always the same ones, beside the model of the document. */
public final class ModelTest {
    private static final int RUNS = 600;
    private static final int CALLS = 512;
    private static final int[] EDGES = {-1, -2, 10, 40, 41, 512, 1000, 1023, 1024, 128, 65535,
        Integer.MIN_VALUE, Integer.MAX_VALUE, Integer.MAX_VALUE - 3};

    private static final Due due = new Due();
    private static final List<Method> METHODS = methods();

    public static void main(String[] args) {
        for (int seed = 0; seed < RUNS; seed++) {
            run(new Random(seed), "run " + seed);
        }
        due.end();
    }

    private static List<Method> methods() {
        List<Method> methods = new ArrayList<>(Arrays.asList(ThrowRows.class.getDeclaredMethods()));
        methods.removeIf(method -> (method.getModifiers() & 1) == 0);
        methods.sort(Comparator.comparing(Method::getName));
        return methods;
    }

    private static void run(Random random, String run) {
        ThrowRows x = new ThrowRows();
        Model model = new Model();
        List<Object[]> planned = new ArrayList<>();
        for (int call = 0; call < CALLS; call++) {
            if (planned.isEmpty()) {
                plan(random, planned);
            }
            Object[] next = planned.remove(0);
            if (!sameAnswer(x, model, (String) next[0], (int[]) next[1], run + ", call " + call)) {
                return;
            }
        }
    }

    private static boolean sameAnswer(ThrowRows x, Model model, String name, int[] numbers, String where) {
        Object[] boxed = Arrays.stream(numbers).boxed().toArray();
        long got = answer(x, name, boxed);
        long want = answer(model, name, boxed);
        due.is(where + ": " + name + Arrays.toString(numbers), got, want);
        due.is(where + ": fault behind " + name + Arrays.toString(numbers), x.fault(), model.fault());
        return got == want && x.fault() == model.fault();
    }

    private static long answer(Object object, String name, Object[] numbers) {
        try {
            for (Method method : object.getClass().getDeclaredMethods()) {
                if (method.getName().equals(name) && method.getParameterCount() == numbers.length) {
                    method.setAccessible(true);
                    return ((Number) method.invoke(object, numbers)).longValue();
                }
            }
            throw new IllegalStateException("no " + name);
        } catch (ReflectiveOperationException thrown) {
            throw new IllegalStateException(name + Arrays.toString(numbers), thrown);
        }
    }

    private static void plan(Random random, List<Object[]> planned) {
        int sort = random.nextInt(3);
        int k = random.nextInt(4);
        switch (random.nextInt(12)) {
            case 0:
                planRow(planned, k, sort, codes(random));
                return;
            case 1:
                int[] cells = openRow(random);
                planRow(planned, k, sort, cells);
                planned.remove(planned.size() - 1);
                int balls = random.nextInt(10);
                for (int q = -1; q <= cells.length; q++) {
                    planned.add(new Object[] {"filled", new int[] {k, sort, 0, cells.length, balls, q}});
                }
                return;
            case 2:
                planWay(random, planned);
                return;
            default:
                Method method = METHODS.get(random.nextInt(METHODS.size()));
                int[] numbers = new int[method.getParameterCount()];
                for (int at = 0; at < numbers.length; at++) {
                    numbers[at] = number(random, method.getName(), at);
                }
                planned.add(new Object[] {method.getName(), numbers});
        }
    }

    private static void planRow(List<Object[]> planned, int k, int sort, int[] cells) {
        planned.add(new Object[] {"sheet", new int[] {k, sort, cells.length}});
        for (int i = 0; i < cells.length; i++) {
            planned.add(new Object[] {"put", new int[] {k, i, cells[i]}});
        }
        planned.add(new Object[] {"pattern", new int[] {k, sort, 0, cells.length}});
    }

    private static void planWay(Random random, List<Object[]> planned) {
        int from = random.nextInt(512);
        int to = random.nextInt(512);
        while (Integer.bitCount(from) != Integer.bitCount(to)) {
            to = random.nextInt(512);
        }
        int top = random.nextInt(10);
        for (int q = -1; q < 8; q++) {
            planned.add(new Object[] {"way", new int[] {from, to, top, q}});
        }
    }

    /** The codes of a text, most often of a GOOD PATTERN. */
    private static int[] codes(Random random) {
        int n = 1 + random.nextInt(8);
        int[] heights = goodRow(random, n);
        if (random.nextInt(4) == 0) {
            heights[random.nextInt(n)] = random.nextInt(10);
        }
        if (random.nextInt(8) == 0) {
            heights = Arrays.copyOf(heights, random.nextInt(12));
            if (heights.length > 0) {
                heights[random.nextInt(heights.length)] += random.nextInt(13) - 2;
            }
        }
        return Arrays.stream(heights).map(height -> height + '0').toArray();
    }

    private static int[] goodRow(Random random, int n) {
        List<Integer> landings = new ArrayList<>();
        for (int beat = 0; beat < n; beat++) {
            landings.add(beat);
        }
        java.util.Collections.shuffle(landings, random);
        int[] heights = new int[n];
        for (int beat = 0; beat < n; beat++) {
            int least = Math.floorMod(landings.get(beat) - beat, n);
            heights[beat] = least + n * random.nextInt((9 - least) / n + 1);
        }
        return heights;
    }

    private static int[] openRow(Random random) {
        int[] heights = goodRow(random, 1 + random.nextInt(6));
        for (int beat = 0; beat < heights.length; beat++) {
            if (random.nextInt(2) == 0) {
                heights[beat] = random.nextInt(20) == 0 ? 10 - 12 * random.nextInt(2) : -1;
            }
        }
        return heights;
    }

    private static int number(Random random, String name, int at) {
        if (random.nextInt(25) == 0) {
            return EDGES[random.nextInt(EDGES.length)];
        }
        switch (name) {
            case "ball":
            case "empty":
                return random.nextInt(random.nextBoolean() ? 30 : 1003);
            case "beat":
                return at == 0 ? random.nextInt(1003) : random.nextInt(3);
            case "drop":
                return random.nextInt(1026);
            case "way":
                return at < 2 ? random.nextInt(513) : random.nextInt(12) - 1;
            case "howMany":
                return random.nextInt(at == 0 ? 8 : 11);
            case "put":
                return at < 2 ? random.nextInt(at == 0 ? 4 : 9) : random.nextInt(200000) - 100000;
            case "copy":
                return random.nextInt(at == 0 || at == 2 ? 4 : 7) - random.nextInt(20) / 19;
            case "sheet":
                return at == 0 ? random.nextInt(4) : at == 1 ? random.nextInt(3) : random.nextInt(44) - 1;
            default:
                return random.nextInt(10) - random.nextInt(20) / 19 >> random.nextInt(3);
        }
    }
}
