import java.io.IOException;
import java.lang.reflect.Method;
import java.lang.reflect.Modifier;
import java.nio.file.Files;
import java.nio.file.Path;
import java.util.Arrays;
import java.util.List;
import java.util.TreeSet;
import java.util.regex.Matcher;
import java.util.regex.Pattern;

/**
 * Does the calls that README.md shows, as they stand in its Java blocks, so that README.md and the program cannot
 * go apart. It is run in the project's directory.
 */
public final class ReadmeTest {
    private static final Pattern MADE = Pattern.compile("TermBench bench = new TermBench\\(\\); +// (\\S+)");
    private static final Pattern CALL = Pattern.compile("bench\\.(\\w+)\\((.*)\\); +// (\\S+)(?: +(\\S+))?");

    private final TreeSet<String> shown = new TreeSet<>();
    private TermBench bench = new TermBench();
    private String text = "?";

    public static void main(String[] args) throws IOException, ReflectiveOperationException {
        ReadmeTest test = new ReadmeTest();
        test.blocks(Files.readAllLines(Path.of("README.md")));
        Keys.begin("README.md");
        Keys.is("the methods that it shows", test.shown.toString(), faceMethods().toString());
        Keys.end();
    }

    private static TreeSet<String> faceMethods() {
        TreeSet<String> names = new TreeSet<>();
        for (Method method : TermBench.class.getDeclaredMethods()) {
            if (Modifier.isPublic(method.getModifiers())) {
                names.add(method.getName());
            }
        }
        return names;
    }

    private void blocks(List<String> lines) throws ReflectiveOperationException {
        boolean inside = false;
        for (int i = 0; i < lines.size(); i++) {
            String line = lines.get(i);
            Keys.begin("README.md, line " + (i + 1));
            if (line.startsWith("```")) {
                inside = line.equals("```java");
            } else if (inside) {
                showOne(line);
            }
        }
    }

    private void showOne(String line) throws ReflectiveOperationException {
        Matcher made = MADE.matcher(line);
        Matcher call = CALL.matcher(line);
        if (made.matches()) {
            bench = new TermBench();
            text = made.group(1);
        } else if (call.matches()) {
            Object answer = answer(call.group(1), call.group(2));
            Keys.is(line, told(answer, call.group(1)), call.group(3));
            text = call.group(4) == null ? text : call.group(4);
        } else {
            Keys.tell("no call with its answer: " + line);
        }
        Keys.is(line + ", the text then", Keys.text(bench), text);
    }

    private Object answer(String name, String written) throws ReflectiveOperationException {
        shown.add(name);
        Method method = Arrays.stream(TermBench.class.getMethods())
            .filter(one -> one.getName().equals(name)).findFirst().orElseThrow();
        String[] arguments = written.isEmpty() ? new String[0] : written.split(", ");
        Class<?>[] kinds = method.getParameterTypes();
        Object[] values = new Object[arguments.length];
        for (int i = 0; i < arguments.length; i++) {
            values[i] = argument(arguments[i], kinds[i]);
        }
        return method.invoke(bench, values);
    }

    private static Object argument(String written, Class<?> kind) throws ReflectiveOperationException {
        if (kind == boolean.class) {
            return written.equals("true");
        }
        long value = sum(written);
        return kind == int.class ? (Object) (int) value : (Object) value;
    }

    /** A number, a constant, or a sum of products of them. */
    private static long sum(String written) throws ReflectiveOperationException {
        long sum = 0;
        for (String product : written.split(" \\+ ")) {
            long value = 1;
            for (String factor : product.split(" \\* ")) {
                value *= factor.startsWith("TermBench.") ? constant(factor.substring(10)) : Long.parseLong(factor);
            }
            sum += value;
        }
        return sum;
    }

    private static long constant(String name) throws ReflectiveOperationException {
        return ((Number) TermBench.class.getField(name).get(null)).longValue();
    }

    /** The answer in the form in which README.md writes answers of this call. */
    private static String told(Object answer, String call) throws ReflectiveOperationException {
        boolean isZero = answer.equals(0L);
        switch (call) {
            case "kind":
                return nameOf(answer, "HOLE", "NUMBER", "NAME", "SUM", "CALL", "FUNCTION", "CLAIM");
            case "mark":
                return nameOf(answer, "FINE", "FREE", "NO_FUNCTION", "WRONG_NAME", "MISFIT");
            case "run":
                return nameOf(answer, "A_NUMBER", "A_FUNCTION", "DARK", "SPENT");
            case "got":
            case "expected":
                return isZero ? "0" : Keys.written((Long) answer);
            case "text":
                return isZero ? "0" : "\"" + characters((Long) answer) + "\"";
            default:
                return answer.toString();
        }
    }

    private static String nameOf(Object answer, String... names) throws ReflectiveOperationException {
        for (String name : names) {
            if (answer.equals((int) constant(name))) {
                return name;
            }
        }
        return answer.toString();
    }

    private static String characters(long word) {
        StringBuilder eight = new StringBuilder();
        for (int i = 0; i < 8; i++) {
            char sign = (char) (word >>> 8 * i & 255);
            if (sign != 0) {
                eight.append(sign);
            }
        }
        return eight.toString();
    }
}
