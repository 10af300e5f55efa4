import java.io.IOException;
import java.lang.reflect.Method;
import java.nio.file.Files;
import java.nio.file.Path;
import java.util.Arrays;
import java.util.HashSet;
import java.util.Set;
import java.util.regex.Matcher;
import java.util.regex.Pattern;

/** The calls that README.md shows, made in their order on one object, each with the answer shown. */
public final class ReadmeTest {
    private static final Checks CHECKS = new Checks();
    private static final Pattern CALL = Pattern.compile("(?m)^x\\.(\\w+)\\(([-\\d, ]*)\\); +// (-?\\d+):");

    public static void main(String[] args) throws IOException {
        String text = Files.readString(Path.of("README.md"));
        CHECKS.sentence("README.md: each call answers a whole number, shown here behind it",
            () -> callsShown(text));
        CHECKS.end();
    }

    private static void callsShown(String text) {
        FrontierWatch x = new FrontierWatch();
        Set<String> shown = new HashSet<>();
        Matcher call = CALL.matcher(text);
        while (call.find()) {
            shown.add(call.group(1));
            CHECKS.due(call.group(), answer(x, call.group(1), call.group(2)), Integer.parseInt(call.group(3)));
        }
        CHECKS.due("methods shown", shown.size(), 10);
    }

    private static int answer(FrontierWatch x, String name, String arguments) {
        Object[] numbers = Arrays.stream(arguments.split(", ")).map(Integer::valueOf).toArray();
        for (Method method : FrontierWatch.class.getMethods()) {
            if (method.getName().equals(name)) {
                return made(x, method, numbers);
            }
        }
        throw new IllegalStateException("no method " + name);
    }

    private static int made(FrontierWatch x, Method method, Object[] numbers) {
        try {
            return (int) method.invoke(x, numbers);
        } catch (ReflectiveOperationException thrown) {
            throw new IllegalStateException(thrown);
        }
    }
}
