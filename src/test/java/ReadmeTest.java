import java.lang.reflect.Method;
import java.lang.reflect.Modifier;
import java.nio.file.Files;
import java.nio.file.Path;
import java.util.Set;
import java.util.TreeSet;
import java.util.regex.Matcher;
import java.util.regex.Pattern;

/** README.md's example answers as it says, and its table of calls names each call of the face once. */
public final class ReadmeTest {
    private static final Pattern HOUSE = Pattern.compile("String text = \"([^\"]*)\";");
    private static final Pattern CALL = Pattern.compile("(?m)^x\\.(\\w+)\\(([-\\d, ]*)\\); +// (-?\\d+)\\b");
    private static final Pattern GROUP = Pattern.compile("(?m)^\\| `([a-z ]+)` \\|");

    public static void main(String[] args) throws Exception {
        String readme = Files.readString(Path.of("README.md"));
        example(readme);
        table(readme);
        Desk.finish();
    }

    private static void example(String readme) throws Exception {
        HerOrders x = new HerOrders();
        Matcher house = HOUSE.matcher(readme);
        Desk.due("a house in README.md", house.find() ? 1 : 0, 1);
        Desk.write(x, 0, house.group(1));
        int calls = 0;
        for (Matcher line = CALL.matcher(readme); line.find(); calls++) {
            Desk.due(line.group(), answer(x, line.group(1), line.group(2)), Long.parseLong(line.group(3)));
        }
        Desk.due("calls in README.md, at least 10", calls >= 10 ? 1 : 0, 1);
    }

    private static long answer(HerOrders x, String name, String numbers) throws Exception {
        String[] parts = numbers.isEmpty() ? new String[0] : numbers.split(", ");
        Class<?>[] types = new Class<?>[parts.length];
        Object[] values = new Object[parts.length];
        for (int k = 0; k < parts.length; k++) {
            types[k] = int.class;
            values[k] = Integer.parseInt(parts[k]);
        }
        return ((Number) HerOrders.class.getMethod(name, types).invoke(x, values)).longValue();
    }

    private static void table(String readme) {
        Set<String> face = new TreeSet<>();
        for (Method method : HerOrders.class.getDeclaredMethods()) {
            if (Modifier.isPublic(method.getModifiers())) face.add(method.getName());
        }
        Set<String> named = new TreeSet<>();
        for (Matcher row = GROUP.matcher(readme); row.find();) {
            for (String name : row.group(1).split(" ")) {
                Desk.due(name + " named once in README.md", named.add(name) ? 1 : 0, 1);
            }
        }
        Desk.due("README.md names " + named, named.equals(face) ? 1 : 0, 1);
    }
}
