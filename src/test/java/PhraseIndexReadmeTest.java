import java.io.IOException;
import java.lang.reflect.Method;
import java.nio.file.Files;
import java.nio.file.Path;
import java.util.regex.Matcher;
import java.util.regex.Pattern;

/** The calls that README.md shows, made on one object in their order, answer what it says behind them. */
public final class PhraseIndexReadmeTest {
    private static final Pattern CALL = Pattern.compile("x\\.(\\w+)\\(([-0-9, ]*)\\);\\s*// (-?\\w+).*");
    private static final int LEAST_CALLS = 40;

    public static void main(String[] args) throws IOException, ReflectiveOperationException {
        PhraseIndex x = new PhraseIndex();
        int calls = 0;
        int wrong = 0;
        for (String line : Files.readAllLines(Path.of("README.md"))) {
            if (!line.startsWith("x.")) {
                continue;
            }
            Matcher call = CALL.matcher(line);
            String got = call.matches() ? answer(x, call.group(1), call.group(2)) : "nothing: it can't be read";
            calls++;
            if (!call.matches() || !got.equals(due(call.group(3)))) {
                wrong++;
                System.out.println(line + "\n    answered " + got);
            }
        }
        System.out.println(calls + " calls of README.md, " + wrong + " not as it says");
        if (wrong != 0 || calls < LEAST_CALLS) {
            System.exit(1);
        }
    }

    private static String due(String said) {
        return said.equals("NONE") ? "-1" : said.equals("FULL") ? "-2" : said;
    }

    private static String answer(PhraseIndex x, String name, String list) throws ReflectiveOperationException {
        String[] numbers = list.isEmpty() ? new String[0] : list.split(", ");
        Class<?>[] types = new Class<?>[numbers.length];
        Object[] values = new Object[numbers.length];
        for (int i = 0; i < numbers.length; i++) {
            types[i] = int.class;
            values[i] = Integer.valueOf(numbers[i]);
        }
        Method method = PhraseIndex.class.getMethod(name, types);
        return String.valueOf(method.invoke(x, values));
    }
}
