import java.io.IOException;
import java.lang.reflect.Method;
import java.lang.reflect.Modifier;
import java.nio.file.Files;
import java.nio.file.Path;
import java.util.HashMap;
import java.util.HashSet;
import java.util.Map;
import java.util.Set;
import java.util.regex.Matcher;
import java.util.regex.Pattern;

/** Makes the calls that README.md shows and asks for the answers that it shows; every method is to be shown. */
public final class ReadmeTest {
    private static final Path README = Path.of("README.md");
    private static final Pattern BLOCK = Pattern.compile("(?ms)^```\\w*\\n(.*?)^```$");
    private static final Pattern MAKING = Pattern.compile("HilbertBasis (\\w+) = new HilbertBasis\\(\\);");
    private static final Pattern CALL = Pattern.compile("(\\w+)\\.(\\w+)\\(([-0-9, ]*)\\);\\s+// (-?\\d+)(:.*)?");

    private final Map<String, HilbertBasis> objects = new HashMap<>();
    private final Set<String> shown = new HashSet<>();

    public static void main(String[] args) throws IOException, ReflectiveOperationException {
        ReadmeTest test = new ReadmeTest();
        Matcher block = BLOCK.matcher(Files.readString(README));
        while (block.find()) {
            for (String line : block.group(1).split("\n")) {
                test.follow(line);
            }
        }
        test.everyMethodIsShown();
        Check.finish();
    }

    // A line that is neither kind would be an answer that nobody asks for.
    private void follow(String line) throws ReflectiveOperationException {
        Matcher making = MAKING.matcher(line);
        Matcher call = CALL.matcher(line);
        if (making.matches()) {
            objects.put(making.group(1), new HilbertBasis());
        } else if (call.matches() && objects.containsKey(call.group(1))) {
            shown.add(call.group(2));
            Check.due("README.md: " + line, answer(call), Integer.parseInt(call.group(4)));
        } else {
            Check.holds("README.md shows only new objects and calls with their answers: " + line, false);
        }
    }

    private int answer(Matcher call) throws ReflectiveOperationException {
        String[] words = call.group(3).isEmpty() ? new String[0] : call.group(3).split(", ");
        Class<?>[] types = new Class<?>[words.length];
        Object[] numbers = new Object[words.length];
        for (int k = 0; k < words.length; k++) {
            types[k] = int.class;
            numbers[k] = Integer.valueOf(words[k]);
        }
        Method method = HilbertBasis.class.getMethod(call.group(2), types);
        return (Integer) method.invoke(objects.get(call.group(1)), numbers);
    }

    private void everyMethodIsShown() {
        for (Method method : HilbertBasis.class.getDeclaredMethods()) {
            Check.holds("README.md shows " + method.getName(),
                !Modifier.isPublic(method.getModifiers()) || shown.contains(method.getName()));
        }
    }
}
