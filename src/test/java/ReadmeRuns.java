import java.lang.reflect.Method;
import java.nio.file.Files;
import java.nio.file.Path;
import java.util.regex.Matcher;
import java.util.regex.Pattern;

/** The examples of README.md: each call answers what stands behind it (run from the project's root). */
public final class ReadmeRuns {
    private static final Pattern CALL = Pattern.compile("x\\.(\\w+)\\(([^)]*)\\); +// ([\\w-]+): .*");
    private static final Pattern READ = Pattern.compile("read\\(x, \"([^\"]*)\"\\); +// ([\\w-]+): .*");
    private static int calls = 0;

    private static String answer(SkewedWays x, String name, String told) throws Exception {
        String[] parts = told.isEmpty() ? new String[0] : told.split(", ");
        for (Method m : SkewedWays.class.getMethods()) {
            if (m.getName().equals(name) && m.getDeclaringClass() == SkewedWays.class) {
                Object[] numbers = new Object[parts.length];
                for (int i = 0; i < parts.length; i++) {
                    boolean flag = m.getParameterTypes()[i] == boolean.class;
                    numbers[i] = flag ? (Object) Boolean.valueOf(parts[i]) : (Object) Integer.valueOf(parts[i]);
                }
                return String.valueOf(m.invoke(x, numbers));
            }
        }
        return "no such call";
    }

    private static void example(String block) throws Exception {
        SkewedWays x = null;
        for (String line : block.split("\n")) {
            Matcher call = CALL.matcher(line);
            Matcher read = READ.matcher(line);
            if (line.equals("SkewedWays x = new SkewedWays();")) {
                x = new SkewedWays();
            } else if (call.matches()) {
                calls++;
                Looks.same(line, answer(x, call.group(1), call.group(2)), call.group(3));
            } else if (read.matches()) {
                calls++;
                Looks.same(line, String.valueOf(Looks.told(x, read.group(1))), read.group(2));
            } else {
                Looks.same("a line of an example", line, "a call and its answer");
            }
        }
    }

    public static void main(String[] args) throws Exception {
        Looks.at("README.md");
        Matcher blocks = Pattern.compile("(?s)```java\n(.*?)```").matcher(Files.readString(Path.of("README.md")));
        while (blocks.find()) {
            if (blocks.group(1).startsWith("SkewedWays x")) {
                example(blocks.group(1));
            }
        }
        Looks.due("calls found", calls >= 20, true);
        Looks.close();
    }
}
