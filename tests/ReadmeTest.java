import java.io.IOException;
import java.lang.reflect.Method;
import java.nio.file.Files;
import java.nio.file.Path;
import java.util.regex.Matcher;
import java.util.regex.Pattern;

/** The lines of README.md that call an object, in their order on one object: each answers what stands behind it. */
public final class ReadmeTest {
    private static final Pattern CALL = Pattern.compile("x\\.(\\w+)\\((.*)\\);\\s+// (true|false|-?\\d+)\\b.*");
    private static final int LEAST_CALLS = 35;

    private static Object argument(Class<?> type, String words) {
        if (type == boolean.class) {
            return Boolean.valueOf(words);
        }
        int sum = 0;
        for (String part : words.split("\\+")) {
            sum += (int) (long) Long.decode(part.trim());
        }
        return sum;
    }

    private static String answer(FootANight x, String name, String told) throws ReflectiveOperationException {
        String[] words = told.isEmpty() ? new String[0] : told.split(",");
        for (Method method : FootANight.class.getDeclaredMethods()) {
            if (method.getName().equals(name) && method.getParameterCount() == words.length) {
                Object[] arguments = new Object[words.length];
                for (int i = 0; i < words.length; i++) {
                    arguments[i] = argument(method.getParameterTypes()[i], words[i].trim());
                }
                return String.valueOf(method.invoke(x, arguments));
            }
        }
        return "no such call";
    }

    public static void main(String[] args) throws IOException, ReflectiveOperationException {
        FootANight x = new FootANight();
        int calls = 0;
        int wrong = 0;
        for (String line : Files.readAllLines(Path.of("README.md"))) {
            Matcher call = CALL.matcher(line);
            if (line.startsWith("x.") && !call.matches()) {
                wrong++;
                System.out.println("can't be read: " + line);
            } else if (line.startsWith("x.")) {
                calls++;
                String got = answer(x, call.group(1), call.group(2));
                if (!got.equals(call.group(3))) {
                    wrong++;
                    System.out.println(line + " answered " + got);
                }
            }
        }
        System.out.println(calls + " lines of README.md, " + wrong + " of them not as told");
        if (wrong > 0 || calls < LEAST_CALLS) {
            System.exit(1);
        }
    }
}
