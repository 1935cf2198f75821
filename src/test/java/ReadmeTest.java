import java.lang.reflect.Method;
import java.nio.file.Files;
import java.nio.file.Path;
import java.util.regex.Matcher;
import java.util.regex.Pattern;

/** The answers that README.md tells are due; it is run from the project's root. */
public final class ReadmeTest {
    private static final Due D = new Due();
    private static final Pattern CALL = Pattern.compile("row\\.(\\w+)\\(([-\\d, ]*)\\); +// (-?\\d+): .+");
    private static final Pattern FEED = Pattern.compile("feed\\(row, \"(.*)\"\\);");

    public static void main(String[] args) throws Exception {
        ScythesKeepStep row = new ScythesKeepStep();
        int calls = 0;
        for (String line : Files.readAllLines(Path.of("README.md"))) {
            Matcher call = CALL.matcher(line);
            Matcher feed = FEED.matcher(line);
            if (call.matches()) {
                calls++;
                D.due(line, answer(row, call.group(1), call.group(2)), Long.parseLong(call.group(3)));
            } else if (feed.matches()) {
                Due.feedAll(row, feed.group(1));
            } else {
                D.holds("no answer: " + line, !line.startsWith("row."));
            }
        }
        D.holds("calls in README.md: " + calls, calls >= 40);
        D.end();
    }

    private static long answer(ScythesKeepStep row, String name, String list) throws Exception {
        String[] args = list.isEmpty() ? new String[0] : list.split(", ");
        Class<?>[] types = new Class<?>[args.length];
        Object[] numbers = new Object[args.length];
        for (int i = 0; i < args.length; i++) {
            types[i] = int.class;
            numbers[i] = Integer.parseInt(args[i]);
        }
        Method method = ScythesKeepStep.class.getMethod(name, types);
        return ((Number) method.invoke(row, numbers)).longValue();
    }
}
