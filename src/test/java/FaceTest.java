import java.lang.management.ManagementFactory;
import java.lang.reflect.Constructor;
import java.lang.reflect.Field;
import java.lang.reflect.Method;
import java.lang.reflect.Modifier;
import java.util.Arrays;
import java.util.List;
import java.util.TreeSet;

/** The public face of the document, and that no call makes objects. */
public final class FaceTest {
    private static final List<String> METHODS = List.of(
        "boolean number(int)", "boolean name(int)", "boolean sum(boolean)", "boolean call(boolean)",
        "boolean function(int,long)", "boolean claim(long)", "boolean remove()", "boolean lift()", "boolean undo()",
        "boolean redo()", "boolean up()", "boolean down(int)", "boolean hole()", "boolean click(int)", "int column()",
        "int kind()", "int mark()", "long got()", "long expected()", "int marks()", "int terms()", "long text(int)",
        "int run()", "int result()", "int units()");
    private static final List<String> CONSTANTS = List.of(
        "int HOLE 0", "int NUMBER 1", "int NAME 2", "int SUM 3", "int CALL 4", "int FUNCTION 5", "int CLAIM 6",
        "int FINE 0", "int FREE 1", "int NO_FUNCTION 2", "int WRONG_NAME 3", "int MISFIT 4",
        "int A_NUMBER 0", "int A_FUNCTION 1", "int DARK 2", "int SPENT 3", "long ANY 1", "long INT 2");

    public static void main(String[] args) throws ReflectiveOperationException {
        Keys.is("the class is public and final", TermBench.class.getModifiers(), Modifier.PUBLIC | Modifier.FINAL);
        Keys.is("methods", methods(), new TreeSet<>(METHODS).toString());
        Keys.is("constants", constants(), new TreeSet<>(CONSTANTS).toString());
        Constructor<?>[] constructors = TermBench.class.getDeclaredConstructors();
        Keys.is("constructors", constructors.length, 1);
        Keys.is("its form", constructors[0].toString(), "public TermBench()");
        privateNames();
        staysSmall();
        Keys.end();
    }

    /** Every method that is not private, so that no other can be seen. */
    private static String methods() {
        TreeSet<String> seen = new TreeSet<>();
        for (Method method : TermBench.class.getDeclaredMethods()) {
            if (!Modifier.isPrivate(method.getModifiers())) {
                String form = method.toString().replace("TermBench.", "");
                seen.add(form.startsWith("public ") ? form.substring(7) : "not public: " + form);
            }
        }
        return seen.toString();
    }

    private static String constants() throws IllegalAccessException {
        TreeSet<String> seen = new TreeSet<>();
        for (Field field : TermBench.class.getDeclaredFields()) {
            if (!Modifier.isPrivate(field.getModifiers())) {
                boolean right = field.getModifiers() == (Modifier.PUBLIC | Modifier.STATIC | Modifier.FINAL);
                String value = right ? field.get(null).toString() : "not public, static and final";
                seen.add(field.getType() + " " + field.getName() + " " + value);
            }
        }
        return seen.toString();
    }

    private static void privateNames() {
        TreeSet<String> open = new TreeSet<>();
        METHODS.forEach(form -> open.add(form.substring(form.indexOf(' ') + 1, form.indexOf('('))));
        Class<?>[] inside = TermBench.class.getDeclaredClasses();
        for (Class<?> one : inside) {
            Keys.is(one + " is static", Modifier.isStatic(one.getModifiers()), true);
            for (Method method : one.getDeclaredMethods()) {
                Keys.is(method + " bears the name of a public one", open.contains(method.getName()), false);
            }
        }
        for (Method method : TermBench.class.getDeclaredMethods()) {
            boolean hidden = Modifier.isPrivate(method.getModifiers());
            Keys.is(method + " bears the name of a public one", hidden && open.contains(method.getName()), false);
        }
        Keys.is("twelve classes at most: " + Arrays.toString(inside), inside.length < 12, true);
    }

    /** All calls of a run live in one room, so only the constructor makes objects. */
    private static void staysSmall() {
        if (!(ManagementFactory.getThreadMXBean() instanceof com.sun.management.ThreadMXBean threads)
            || !threads.isThreadAllocatedMemorySupported()) {
            return;
        }
        TermBench x = Keys.made("[a:<##>[b:<##>[c:<##>c(c(999))]([d:#b(b(d))])]([e:#a(a(e))])]([f:#(f+f)])");
        long thread = Thread.currentThread().getId();
        everyCall(x);
        long before = threads.getThreadAllocatedBytes(thread);
        for (int i = 0; i < 1000; i++) {
            everyCall(x);
        }
        long bytes = threads.getThreadAllocatedBytes(thread) - before;
        Keys.is("bytes made by 1000 rounds of calls (" + bytes + ") are few", bytes < 10_000, true);
    }

    private static void everyCall(TermBench x) {
        x.hole();
        x.click(12);
        x.sum(true);
        x.number(-7);
        x.up();
        x.call(false);
        x.name(2);
        x.function(3, TermBench.ANY);
        x.claim(TermBench.INT);
        x.run();
        x.undo();
        x.undo();
        x.redo();
        x.lift();
        x.remove();
        x.down(0);
        x.marks();
        x.text(3);
        while (x.undo()) {
            x.run();
        }
    }
}
