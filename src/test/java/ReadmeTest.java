import java.io.IOException;
import java.lang.reflect.InvocationTargetException;
import java.lang.reflect.Method;
import java.nio.file.Files;
import java.nio.file.Path;
import java.util.regex.Matcher;
import java.util.regex.Pattern;

/** The calls that README.md shows must answer what stands behind them. Runs in the project's folder. */
public final class ReadmeTest {
    private static final Due due = new Due("ReadmeTest");
    private static final Pattern PUT = Pattern.compile(" {4}put\\(x, \"([^\"]*)\"\\);");
    private static final Pattern CALL = Pattern.compile(" {4}x\\.(\\w+)\\(([-0-9, ]*)\\); *// ([-\\w]+).*");

    public static void main(String[] args) throws IOException {
        CoinLadders x = new CoinLadders();
        int calls = 0;
        for (String line : Files.readAllLines(Path.of("README.md"))) {
            Matcher put = PUT.matcher(line);
            if (put.matches()) {
                Due.append(x, put.group(1));
            }
            Matcher call = CALL.matcher(line);
            if (call.matches()) {
                String got = answer(x, call.group(1), call.group(2));
                due.isTrue(line.strip() + " (it answered " + got + ")", got.equals(call.group(3)));
                calls++;
            }
        }
        due.isTrue("README.md shows calls, which", calls > 0);
        due.end();
    }

    private static String answer(CoinLadders x, String name, String arguments) {
        String[] words = arguments.isEmpty() ? new String[0] : arguments.split(", *");
        Class<?>[] types = new Class<?>[words.length];
        Object[] numbers = new Object[words.length];
        for (int i = 0; i < words.length; i++) {
            types[i] = int.class;
            numbers[i] = Integer.valueOf(words[i]);
        }
        try {
            Method method = CoinLadders.class.getMethod(name, types);
            return String.valueOf(method.invoke(x, numbers));
        } catch (InvocationTargetException e) {
            return "by throwing " + e.getCause();
        } catch (NoSuchMethodException | IllegalAccessException e) {
            return "nothing: " + e;
        }
    }
}
