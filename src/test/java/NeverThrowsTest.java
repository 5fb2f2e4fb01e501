import java.lang.reflect.InvocationTargetException;
import java.lang.reflect.Method;
import java.util.Arrays;
import java.util.Comparator;
import java.util.List;
import java.util.function.Supplier;

/** No call throws, whatever its arguments and whatever came before; each method's promise is named by its place in the face. */
public final class NeverThrowsTest {
    private static final Check CHECK = new Check("NeverThrowsTest");
    private static final int[] NUMBERS = {Integer.MIN_VALUE, Integer.MIN_VALUE + 1, -10000009, -10000001, -9000001, -301, -101, -7, -1, 0, 1, 2, 3, 5, 6, 9, 10, 11, 12,
        31, 33, 40, 41, 48, 99, 100, 101, 102, 103, 104, 113, 126, 127, 200, 201, 202, 299, 300, 302, 303, 500, 501, 1000, 1001, 100000, 100001, 1000000, 1000001,
        2000000, 2000001, 9000000, 9000001, Integer.MAX_VALUE - 300, Integer.MAX_VALUE - 1, Integer.MAX_VALUE};
    /** The methods of promises 2 to 48, in their order. */
    private static final List<String> FACE = List.of("cell", "link", "river", "drain", "well", "rain", "ease", "rate", "stage", "pattern", "head", "milli", "flow",
        "gives", "takes", "dry", "salt", "through", "way", "end", "time", "wayTime", "zone", "spill", "pour", "cups", "mark", "tick", "book", "world", "see", "left",
        "inWorld", "next", "alike", "sign", "wipe", "fault", "holds", "limit", "worth", "level", "draw", "price", "harm", "share", "count");
    private static long seed = 41;

    public static void main(String[] args) throws IllegalAccessException {
        Method[] methods = Arrays.stream(GroundWaters.class.getDeclaredMethods()).filter(m -> FACE.contains(m.getName()))
            .sorted(Comparator.comparingInt(m -> FACE.indexOf(m.getName()))).toArray(Method[]::new);
        CHECK.due(1, "methods of the face", methods.length, 47);
        List<Supplier<GroundWaters>> lands = List.of(GroundWaters::new, Lands::pond, Lands::small, Lands::full);
        for (Supplier<GroundWaters> land : lands) {
            for (Method m : methods) eachNumber(m, land);
            for (int run = 0; run < 50; run++) mixed(methods, land.get());
        }
        CHECK.covers(1, 48);
        CHECK.end();
    }

    private static int random(int n) {
        seed = seed * 6364136223846793005L + 1442695040888963407L;
        return (int) ((seed >>> 33) % n);
    }

    /** Each number in the first place, with all others in the second one, on lands as they were made. */
    private static void eachNumber(Method m, Supplier<GroundWaters> land) throws IllegalAccessException {
        boolean two = m.getParameterCount() > 1;
        for (int first : NUMBERS) {
            GroundWaters x = land.get();
            for (int i = 0; i < (two ? NUMBERS.length : 1); i++) call(m, x, first, NUMBERS[i]);
        }
    }

    private static void mixed(Method[] methods, GroundWaters x) throws IllegalAccessException {
        for (int i = 0; i < 400; i++) call(methods[random(methods.length)], x, NUMBERS[random(NUMBERS.length)], NUMBERS[random(NUMBERS.length)]);
    }

    private static void call(Method m, GroundWaters x, int first, int second) throws IllegalAccessException {
        Class<?>[] kinds = m.getParameterTypes();
        Object[] given = new Object[kinds.length];
        for (int i = 0; i < given.length; i++) {
            int number = i == 0 ? first : i == 1 ? second : NUMBERS[random(NUMBERS.length)];
            given[i] = kinds[i] == boolean.class ? (Object) (number % 2 == 0) : (Object) number;
        }
        int thrown = 0;
        try {
            m.invoke(x, given);
        } catch (InvocationTargetException e) {
            thrown = 1;
            System.out.println(m.getName() + Arrays.toString(given) + " threw " + e.getCause());
        }
        CHECK.due(FACE.indexOf(m.getName()) + 2, m.getName() + Arrays.toString(given) + " throws", thrown, 0);
    }
}
