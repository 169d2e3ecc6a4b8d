import java.io.IOException;
import java.lang.reflect.InvocationTargetException;
import java.lang.reflect.Method;
import java.nio.file.Files;
import java.nio.file.Path;
import java.util.Arrays;
import java.util.Map;
import java.util.Set;
import java.util.TreeMap;
import java.util.TreeSet;
import java.util.regex.Matcher;
import java.util.regex.Pattern;

/** The calls that README.md shows answer what it says, and every method of the face is shown. */
public final class ReadmeTest {
    private static final Pattern CALL = Pattern.compile("kernel\\.(\\w+)\\(([-0-9, ]+)\\); +// ([^:]+): .+");
    private static final String MAKING = "ElasticKernel kernel = new ElasticKernel();";

    private static final Map<String, Method> FACE = new TreeMap<>();
    private static final Set<String> SHOWN = new TreeSet<>();

    private static ElasticKernel kernel;
    private static int calls = 0;
    private static int wrong = 0;

    public static void main(String[] args) throws IOException {
        for (Method each : ElasticKernel.class.getMethods()) {
            if (each.getDeclaringClass() == ElasticKernel.class) {
                FACE.put(each.getName(), each);
            }
        }
        boolean isCode = false;
        for (String line : Files.readAllLines(Path.of("README.md"))) {
            boolean isFence = line.startsWith("```");
            isCode = isFence ? line.equals("```java") : isCode;
            if (isCode && !isFence && !line.isBlank() && !line.startsWith("//")) {
                follow(line);
            }
        }
        due("the methods that are shown", SHOWN.toString(), FACE.keySet().toString());
        System.out.println(calls + " calls, " + wrong + " not as README.md says");
        if (wrong != 0) {
            System.exit(1);
        }
    }

    private static void follow(String line) {
        Matcher call = CALL.matcher(line);
        if (line.equals(MAKING)) {
            kernel = new ElasticKernel();
        } else if (kernel != null && call.matches() && FACE.containsKey(call.group(1))) {
            calls++;
            SHOWN.add(call.group(1));
            String want = call.group(3).equals("NONE") ? "" + ElasticKernel.NONE : call.group(3);
            due(line, answer(FACE.get(call.group(1)), call.group(2)), want);
        } else {
            due(line, "no call with its answer", "one");
        }
    }

    private static String answer(Method method, String arguments) {
        Object[] numbers = Arrays.stream(arguments.split(", *")).map(Integer::valueOf).toArray();
        try {
            return method.invoke(kernel, numbers).toString();
        } catch (InvocationTargetException e) {
            return "throws " + e.getCause().getClass().getSimpleName();
        } catch (IllegalAccessException | IllegalArgumentException e) {
            return "can't be called: " + e;
        }
    }

    private static void due(String what, String got, String want) {
        if (!got.equals(want)) {
            wrong++;
            System.out.println(what + "\n    got " + got + ", due is " + want);
        }
    }
}
