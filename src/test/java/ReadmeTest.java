import java.lang.reflect.Method;
import java.lang.reflect.Modifier;
import java.nio.file.Files;
import java.nio.file.Path;
import java.util.Arrays;
import java.util.regex.Matcher;
import java.util.regex.Pattern;

/** What README.md says of the class: its example answers so, and it names every call. */
public final class ReadmeTest {
    private static final Pattern TEXT = Pattern.compile("String text = \"(.*)\";");
    private static final Pattern ROW = Pattern.compile("(?m)^chain\\.(\\w+)\\(([0-9, ]*)\\); +// (-?[0-9]+)\\b");
    private static final int FEWEST_ROWS = 10;

    public static void main(String[] args) throws Exception {
        String readme = Files.readString(Path.of("README.md"));
        exampleAnswersSo(readme);
        everyCallIsNamed(readme);
        Check.end();
    }

    private static void exampleAnswersSo(String readme) throws Exception {
        DaisyChain chain = new DaisyChain();
        Matcher text = TEXT.matcher(readme);
        Check.holds("the example tells a text", text.find());
        Check.type(chain, text.group(1));
        Matcher rows = ROW.matcher(readme);
        int found = 0;
        while (rows.find()) {
            Check.due("README.md: " + rows.group(), answer(chain, rows.group(1), rows.group(2)),
                Long.parseLong(rows.group(3)));
            found++;
        }
        Check.holds("the example's rows are found", found >= FEWEST_ROWS);
    }

    private static long answer(DaisyChain chain, String name, String numbers) throws Exception {
        String[] told = numbers.isEmpty() ? new String[0] : numbers.split(", *");
        Object[] given = Arrays.stream(told).map(Integer::valueOf).toArray();
        Class<?>[] types = new Class<?>[given.length];
        Arrays.fill(types, int.class);
        return ((Number) DaisyChain.class.getMethod(name, types).invoke(chain, given)).longValue();
    }

    private static void everyCallIsNamed(String readme) {
        for (Method method : DaisyChain.class.getDeclaredMethods()) {
            boolean hidden = !Modifier.isPublic(method.getModifiers());
            Check.holds("README.md names " + method.getName(), hidden || readme.contains("`" + method.getName() + "`"));
        }
    }
}
