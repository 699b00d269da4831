import java.lang.reflect.Method;
import java.nio.file.Files;
import java.nio.file.Path;
import java.util.regex.Matcher;
import java.util.regex.Pattern;

/** The calls that README.md shows, made in their order on one object, answer what it tells. */
public final class ReadmeTest {
    private static final Pattern SHOWN = Pattern.compile("x\\.(\\w+)\\((.*)\\);\\s+// -> (-?\\d+)\\b.*");

    public static void main(String[] args) throws Exception {
        Checks checks = new Checks();
        PodMarks x = new PodMarks();
        for (String line : Files.readAllLines(Path.of("README.md"))) {
            if (!line.startsWith("x.")) continue;
            Matcher shown = SHOWN.matcher(line);
            boolean told = shown.matches();
            checks.holds("a call without an answer: " + line, told);
            if (told) checks.due(line, answer(x, shown.group(1), shown.group(2)), Long.parseLong(shown.group(3)));
        }
        checks.end();
    }

    private static long answer(PodMarks x, String name, String list) throws Exception {
        String[] words = list.isEmpty() ? new String[0] : list.split(",\\s*");
        for (Method m : PodMarks.class.getMethods()) {
            if (m.getName().equals(name) && m.getParameterCount() == words.length) {
                Object[] numbers = new Object[words.length];
                for (int k = 0; k < words.length; k++) {
                    long v = number(words[k]);
                    numbers[k] = m.getParameterTypes()[k] == long.class ? (Object) v : (Object) (int) v;
                }
                return ((Number) m.invoke(x, numbers)).longValue();
            }
        }
        throw new IllegalArgumentException("there is no such call: " + name + "(" + list + ")");
    }

    private static long number(String word) {
        return word.equals("PodMarks.NONE") ? PodMarks.NONE : Long.decode(word.endsWith("L") ? word.substring(0, word.length() - 1) : word);
    }
}
