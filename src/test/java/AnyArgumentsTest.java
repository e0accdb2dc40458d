import java.lang.reflect.InvocationTargetException;
import java.lang.reflect.Method;
import java.lang.reflect.Modifier;
import java.util.ArrayList;
import java.util.Comparator;
import java.util.List;
import java.util.Random;

/**
 * All calls with any arguments, in any order, 512 an object: none throws, refused ones have a code of the document, and a
 * twin that is given the same calls answers the same. Arguments: how many objects, the first seed.
 */
public final class AnyArgumentsTest {
    private static final int[] EDGES = {Integer.MIN_VALUE, Integer.MIN_VALUE + 1, -1000, -31, -2, -1, 0, 0, 1, 1, 2, 2, 3, 3, 4, 5, 6, 7,
        8, 9, 10, 11, 12, 13, 14, 20, 25, 26, 29, 30, 31, 32, 33, 39, 40, 41, 63, 64, 99, 100, 200, 300, 302, 512, 775, 776, 899, 900, 901,
        998, 999, 1000, 9999, 10000, 10001, 18575, 18576, 65535, 65536, Integer.MAX_VALUE - 1, Integer.MAX_VALUE};
    private static final String[] TEXTS = {Cases.FIRST, Cases.alike(8, 3, 6), Cases.alike(3, 1, 4) + "name a;shows:100;", "noon 9;", "noon",
        "noon 300;hand 0 1;hand 2 3 skill 9;hand 0 3;court 100;court 0;letter 0 tongue 0 says yes worth 9;"
            + "letter 1 tongue 1 says yes seal 9;letter 0 tongue 2 says no pages 9;letter 1 tongue 3;name b;opens:sign;shows:50;"};

    private static final List<Method> CALLS = new ArrayList<>();
    private static int wrong = 0;

    public static void main(String[] args) throws Exception {
        int objects = args.length > 0 ? Integer.parseInt(args[0]) : 300;
        long first = args.length > 1 ? Long.parseLong(args[1]) : 1;
        for (Method method : BlackCabinet.class.getDeclaredMethods()) {
            if (Modifier.isPublic(method.getModifiers())) {
                CALLS.add(method);
            }
        }
        CALLS.sort(Comparator.comparing(Method::getName));
        for (int i = 0; i < objects && wrong < 5; i++) {
            oneObject(new Random(first + i));
        }
        System.out.println(wrong == 0 ? objects + " objects bore any arguments" : wrong + " calls went wrong");
        if (wrong != 0) {
            System.exit(1);
        }
    }

    private static void oneObject(Random random) throws Exception {
        BlackCabinet x = new BlackCabinet();
        BlackCabinet twin = new BlackCabinet();
        int calls = 0;
        while (calls < 512) {
            if (random.nextInt(60) == 0 && calls < 450) {
                String text = TEXTS[random.nextInt(TEXTS.length)];
                Cases.read(x, text);
                Cases.read(twin, text);
                calls += text.length() / 20 + 2;
            } else {
                Method call = CALLS.get(random.nextInt(CALLS.size()));
                Object[] arguments = arguments(call, random);
                compare(call, arguments, answer(x, call, arguments), answer(twin, call, arguments));
                calls++;
            }
        }
    }

    private static Object[] arguments(Method call, Random random) {
        Object[] arguments = new Object[call.getParameterCount()];
        boolean mild = random.nextInt(3) > 0;
        for (int i = 0; i < arguments.length; i++) {
            int n = mild ? random.nextInt(5) : random.nextInt(20) == 0 ? random.nextInt() : EDGES[random.nextInt(EDGES.length)];
            boolean wide = call.getParameterTypes()[i] == long.class;
            arguments[i] = wide ? (Object) (random.nextInt(20) == 0 ? random.nextLong() : (long) n) : (Object) n;
        }
        return arguments;
    }

    private static Long answer(BlackCabinet x, Method call, Object[] arguments) throws IllegalAccessException {
        try {
            return ((Number) call.invoke(x, arguments)).longValue();
        } catch (InvocationTargetException e) {
            System.out.println(call.getName() + java.util.Arrays.toString(arguments) + " threw " + e.getCause());
            return null;
        }
    }

    private static void compare(Method call, Object[] arguments, Long got, Long twins) {
        boolean anyNumber = call.getName().equals("seed") || call.getName().equals("write");
        boolean right = got != null && got.equals(twins) && (anyNumber || got >= -1 || isCode(got));
        if (!right) {
            wrong++;
            System.out.println(call.getName() + java.util.Arrays.toString(arguments) + " answered " + got + ", its twin " + twins);
        }
    }

    private static boolean isCode(long answer) {
        return answer >= -7 || answer >= -13 && answer <= -11 || answer >= -34 && answer <= -31;
    }
}
