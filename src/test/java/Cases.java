import java.lang.reflect.InvocationTargetException;
import java.lang.reflect.Method;
import java.util.ArrayList;
import java.util.Comparator;
import java.util.List;

/**
 * What the tests by promise share. Each of their cases is a static method "promiseN_.." that makes objects of its own
 * and holds answers against those that are due.
 */
abstract class Cases {
    /** Three letters, of which best reads all in 27 minutes and a rule the first two. */
    static final String FIRST = "noon 30;hand 0 1;hand 1 2 skill 4;court 80;court 30;"
        + "letter 0 tongue 1 pages 2 worth 5 seal 1 says yes;letter 1 tongue 2 pages 1 worth 3 says no;"
        + "letter 0 tongue 0 pages 4 worth 9 seal 2;prior 50;name rex;";

    private static String running = "";
    private static int wrong = 0;
    private static int asked = 0;

    /** Runs all cases of a class, which must have one at least for each promise from first to last. */
    static void run(Class<?> tests, int first, int last) {
        List<Method> cases = casesOf(tests);
        for (int promise = first; promise <= last; promise++) {
            int n = promise;
            running = "promise " + n;
            if (cases.stream().noneMatch(m -> promiseOf(m) == n)) {
                fail("has no case in " + tests.getName());
            }
        }
        for (Method one : cases) {
            running = one.getName();
            try {
                one.invoke(null);
            } catch (InvocationTargetException e) {
                fail("threw " + e.getCause());
            } catch (IllegalAccessException e) {
                fail("can't be called");
            }
        }
        System.out.println(tests.getName() + ": " + cases.size() + " cases, " + asked + " answers, " + wrong + " not as due");
        if (wrong != 0) {
            System.exit(1);
        }
    }

    private static List<Method> casesOf(Class<?> tests) {
        List<Method> cases = new ArrayList<>();
        for (Method method : tests.getDeclaredMethods()) {
            if (method.getName().matches("promise\\d+_\\w+")) {
                cases.add(method);
            }
        }
        cases.sort(Comparator.comparingInt(Cases::promiseOf).thenComparing(Method::getName));
        return cases;
    }

    private static int promiseOf(Method one) {
        return Integer.parseInt(one.getName().replaceAll("promise(\\d+)_.*", "$1"));
    }

    private static void fail(String what) {
        wrong++;
        System.out.println(running + ": " + what);
    }

    static void due(long got, long want) {
        due("", got, want);
    }

    static void due(String what, long got, long want) {
        asked++;
        if (got != want) {
            StackWalker.StackFrame at = StackWalker.getInstance().walk(s -> s
                .filter(f -> !f.getClassName().equals("Cases")).findFirst().orElseThrow());
            fail(what + " answered " + got + ", due is " + want + " (" + at.getFileName() + ":" + at.getLineNumber() + ")");
        }
    }

    /** What a call that tells one of several things answers for what 0, 1, 2 .. */
    interface Told {
        long of(int what);
    }

    static void dueAll(Told told, long... want) {
        for (int what = 0; what < want.length; what++) {
            due("for " + what, told.of(what), want[what]);
        }
    }

    static void feed(BlackCabinet x, String text) {
        StringBuilder whole = new StringBuilder(text);
        while (whole.length() % 20 != 0) {
            whole.append(' ');
        }
        for (int i = 0; i < whole.length(); i += 20) {
            int[] w = new int[5];
            for (int j = 0; j < 20; j++) {
                w[j / 4] = w[j / 4] << 8 | whole.charAt(i + j);
            }
            x.feed(w[0], w[1], w[2], w[3], w[4]);
        }
    }

    static int read(BlackCabinet x, String text) {
        feed(x, text);
        return x.room(text.length());
    }

    /** A new object with a room, whose text must be right. */
    static BlackCabinet in(String text) {
        BlackCabinet x = new BlackCabinet();
        due("'" + text + "'", read(x, text) > 0 ? 0 : x.fault(0), 0);
        return x;
    }

    /** Letters of worth 1 that a hand opens, copies and mends in 1 minute each: n of them are done by n + 2. */
    static String alike(int noon, int hands, int letters) {
        return "noon " + noon + ";" + "hand 0;".repeat(hands) + "court 50;" + "letter 0 tongue 0;".repeat(letters)
            + "opens:1;copies:1;mends:1;";
    }

    static BlackCabinet fill(BlackCabinet x, int tray, long... numbers) {
        x.numbers(tray, 3, numbers.length);
        for (int i = 0; i < numbers.length; i++) {
            x.write(tray, i, numbers[i]);
        }
        return x;
    }

    static BlackCabinet spell(BlackCabinet x, int tray, String letters) {
        x.numbers(tray, 0, letters.length());
        for (int i = 0; i < letters.length(); i++) {
            x.write(tray, i, letters.charAt(i) - 'a');
        }
        return x;
    }

    /** What x is; the call that tells it is undone, as it changes x and can be undone itself. */
    static int drawn(BlackCabinet x) {
        int was = x.seed(0);
        x.undo(1);
        return was;
    }

    static int next(int x) {
        return 1103515245 * x + 12345;
    }

    static int drawOf(int x) {
        return next(x) >>> 16;
    }
}
