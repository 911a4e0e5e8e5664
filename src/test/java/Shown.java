import java.util.function.Predicate;
import java.util.function.Supplier;

/** All that calls show of an object, and checks of calls that are refused and of the last ones that are not. */
final class Shown {
    /** So many steps are tried to and fro; more than can ever be kept. */
    private static final int STEPS = 18;
    /** So many words of the text are read after each step, so that an object stays under 512 calls. */
    private static final int WORDS = 5;

    private Shown() {
    }

    /** An object with this program that came to 42 in its latest run, with edits kept and two edits put by. */
    static TermBench ready(String text, int... path) {
        TermBench bench = new TermBench();
        bench.number(42);
        bench.run();
        bench.remove();
        Keys.enter(bench, text);
        Keys.at(bench, path);
        otherEdit(bench);
        otherEdit(bench);
        bench.undo();
        bench.undo();
        return bench;
    }

    /** An edit that is possible everywhere. */
    private static void otherEdit(TermBench bench) {
        if (!bench.remove()) {
            bench.number(1);
        }
    }

    /** The call answers false, and whatever else is asked then is answered as if it had not been there. */
    static void refused(String what, Supplier<TermBench> made, Predicate<TermBench> call) {
        Keys.is(what, call.test(made.get()), false);
        Supplier<TermBench> after = () -> {
            TermBench bench = made.get();
            call.test(bench);
            return bench;
        };
        Keys.is(what + ", what is shown after it", all(after), all(made));
    }

    /** The call answers true and leaves a program of this text and no other, with the cursor's term at this column. */
    static void done(String what, TermBench bench, Predicate<TermBench> call, String text, int column) {
        Keys.is(what, call.test(bench), true);
        Keys.is(what + ", text", Keys.text(bench), text);
        Keys.is(what + ", column", bench.column(), column);
        TermBench same = Keys.made(text);
        Keys.is(what + ", terms", bench.terms(), same.terms());
        Keys.is(what + ", marks", bench.marks(), same.marks());
    }

    static String all(Supplier<TermBench> made) {
        TermBench bench = made.get();
        return "latest run " + bench.result() + " in " + bench.units() + here(bench) + ", text " + Keys.text(bench)
            + ", run " + bench.run() + " to " + bench.result() + " in " + bench.units()
            + ", back" + steps(made.get(), TermBench::undo)
            + ", forth" + steps(made.get(), TermBench::redo);
    }

    private static String here(TermBench bench) {
        return ", kind " + bench.kind() + ", column " + bench.column() + ", mark " + bench.mark()
            + ", got " + bench.got() + ", expected " + bench.expected() + ", marks " + bench.marks()
            + ", terms " + bench.terms();
    }

    private static String steps(TermBench bench, Predicate<TermBench> step) {
        StringBuilder told = new StringBuilder();
        for (int i = 0; i < STEPS && step.test(bench); i++) {
            told.append(" / " + bench.kind() + " " + bench.column() + " " + bench.terms());
            for (int k = 0; k < WORDS; k++) {
                told.append(' ').append(bench.text(k));
            }
        }
        return told.toString();
    }
}
