import java.lang.reflect.Method;
import java.nio.file.Files;
import java.nio.file.Path;
import java.util.regex.Matcher;
import java.util.regex.Pattern;

/** The calls that README.md shows, in their order on one object, against the answers that it tells behind them. */
public final class ReadmeTest {
    private static final Pattern BLOCK = Pattern.compile("(?s)```java\n(.*?)```");
    private static final Pattern CALL = Pattern.compile("^x\\.(\\w+)\\((.*)\\);\\s*(?://\\s*(-?\\d+|\".*\"|\\S+).*)?$");

    public static void main(String[] args) throws Exception {
        StringBuilder shown = new StringBuilder();
        Matcher block = BLOCK.matcher(Files.readString(Path.of("README.md")));
        while (block.find()) {
            shown.append(block.group(1));
        }
        BlackCabinet x = new BlackCabinet();
        int held = 0;
        int wrong = 0;
        for (String line : shown.toString().split("\n")) {
            Matcher call = CALL.matcher(line.strip());
            if (call.matches()) {
                long got = answer(x, call.group(1), call.group(2));
                if (call.group(3) != null && call.group(3).matches("-?\\d+")) {
                    held++;
                    if (got != Long.parseLong(call.group(3))) {
                        wrong++;
                        System.out.println(line.strip() + " answered " + got);
                    }
                }
            }
        }
        System.out.println("README.md: " + held + " answers, " + wrong + " not as it tells");
        if (held == 0 || wrong != 0) {
            System.exit(1);
        }
    }

    private static long answer(BlackCabinet x, String name, String arguments) throws Exception {
        String[] told = arguments.isBlank() ? new String[0] : arguments.split(",");
        for (Method method : BlackCabinet.class.getMethods()) {
            if (method.getName().equals(name) && method.getParameterCount() == told.length) {
                Object[] values = new Object[told.length];
                for (int i = 0; i < told.length; i++) {
                    long v = Long.decode(told[i].strip());
                    if (method.getParameterTypes()[i] == long.class) {
                        values[i] = v;
                    } else {
                        values[i] = (int) v;
                    }
                }
                return ((Number) method.invoke(x, values)).longValue();
            }
        }
        System.out.println("there is no call " + name + "(" + arguments + ")");
        System.exit(1);
        return 0;
    }
}
