import java.io.IOException;
import java.lang.reflect.Method;
import java.nio.file.Files;
import java.nio.file.Path;
import java.util.regex.Matcher;
import java.util.regex.Pattern;

/** The calls that README.md shows, one behind another on one object, answer what it says. */
public final class ReadmeTest {
    private static final Pattern CALL = Pattern.compile("x\\.(\\w+)\\(([^)]*)\\); +// (-?[0-9]+)");

    public static void main(String[] args) throws IOException, ReflectiveOperationException {
        NeighbourWires x = new NeighbourWires();
        Matcher call = CALL.matcher(Files.readString(Path.of("README.md")));
        while (call.find()) {
            String name = call.group(1);
            Due.due(call.group(), answer(x, name, call.group(2)), Long.parseLong(call.group(3)));
        }
        Due.finish();
    }

    private static int answer(NeighbourWires x, String name, String numbers) throws ReflectiveOperationException {
        String[] each = numbers.isEmpty() ? new String[0] : numbers.split(", ");
        for (Method m : NeighbourWires.class.getMethods()) {
            if (m.getName().equals(name) && m.getParameterCount() == each.length) {
                Object[] given = new Object[each.length];
                for (int i = 0; i < given.length; i++) {
                    long v = Long.decode(each[i].replaceAll("[_L]", ""));
                    given[i] = m.getParameterTypes()[i] == long.class ? (Object) v : (Object) (int) v;
                }
                return (Integer) m.invoke(x, given);
            }
        }
        throw new NoSuchMethodException(name);
    }
}
