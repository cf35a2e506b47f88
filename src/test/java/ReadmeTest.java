import java.io.IOException;
import java.lang.reflect.InvocationTargetException;
import java.lang.reflect.Method;
import java.nio.file.Files;
import java.nio.file.Path;
import java.util.regex.Matcher;
import java.util.regex.Pattern;

/** The examples of README.md, read from the page itself: each call has the answer that stands behind it. */
public final class ReadmeTest {
    private static final Pattern EXAMPLE =
        Pattern.compile("^valley\\.(\\w+)\\(([^)]*)\\);\\s*// (-?\\w+)(?::.*)?$");
    private static final int EXAMPLES_LEAST = 30;

    public static void main(String[] args) throws IOException, ReflectiveOperationException {
        NotWorn valley = new NotWorn();
        int examples = 0;
        for (String line : Files.readAllLines(Path.of("README.md"))) {
            if (!line.startsWith("valley.")) {
                continue;
            }
            Matcher example = EXAMPLE.matcher(line);
            boolean fits = example.matches();
            Due.holds("a call with its answer behind it: " + line, fits);
            if (fits) {
                Due.is(line, call(valley, example.group(1), example.group(2)), number(example.group(3)));
                examples++;
            }
        }
        Due.holds("README.md has examples", examples >= EXAMPLES_LEAST);
        Due.end();
    }

    private static int call(NotWorn valley, String name, String given)
            throws IllegalAccessException, InvocationTargetException, NoSuchFieldException, NoSuchMethodException {
        String[] words = given.isEmpty() ? new String[0] : given.split(", ");
        Object[] numbers = new Object[words.length];
        Class<?>[] types = new Class<?>[words.length];
        for (int i = 0; i < words.length; i++) {
            numbers[i] = number(words[i]);
            types[i] = int.class;
        }
        Method method = NotWorn.class.getMethod(name, types);
        return (int) method.invoke(valley, numbers);
    }

    private static int number(String word) throws NoSuchFieldException, IllegalAccessException {
        if (Character.isUpperCase(word.charAt(0))) {
            return NotWorn.class.getField(word.replace("NotWorn.", "")).getInt(null);
        }
        return Long.decode(word).intValue();
    }
}
