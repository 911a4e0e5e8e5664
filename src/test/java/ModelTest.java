import java.util.Arrays;
import java.util.Random;

/** Runs of calls, chosen by fixed seeds, on a TermBench and on the model; every answer must be the same. */
public final class ModelTest {
    private static final int RUNS = 4000;
    private static final int LAST_CALL = 512;
    private static final String[] TYPES = {"*", "#", "<##>", "<**>", "<#*>", "<*#>", "<<##>#>", "<#<##>>", "<<**>*>"};

    private static int spentByUnits = 0;
    private static int spentByDepth = 0;

    private final Random random;
    private final TermBench bench = new TermBench();
    private final Model model = new Model();
    private final StringBuilder told = new StringBuilder();
    private final int[] seenMarks;
    private final int[] seenOutcomes;
    private int calls = 0;
    private boolean wrong = false;

    private ModelTest(long seed, int[] seenMarks, int[] seenOutcomes) {
        this.random = new Random(seed);
        this.seenMarks = seenMarks;
        this.seenOutcomes = seenOutcomes;
    }

    public static void main(String[] args) {
        int[] marks = new int[5];
        int[] outcomes = new int[4];
        int wrongRuns = 0;
        for (int seed = 0; seed < RUNS && wrongRuns < 5; seed++) {
            ModelTest test = new ModelTest(seed, marks, outcomes);
            if (!test.passes(seed % 6)) {
                wrongRuns++;
            }
        }
        for (int i = 0; i < marks.length; i++) {
            Keys.is("mark " + i + " was met", marks[i] > 0, true);
        }
        for (int i = 0; i < outcomes.length; i++) {
            Keys.is("outcome " + i + " was met", outcomes[i] > 0, true);
        }
        Keys.is("runs were spent by units", spentByUnits > 0, true);
        Keys.is("runs were spent by depth", spentByDepth > 0, true);
        System.out.println("marks " + Arrays.toString(marks) + ", outcomes " + Arrays.toString(outcomes)
            + ", spent by units " + spentByUnits + ", by depth " + spentByDepth);
        Keys.is("runs that differ from the model", wrongRuns, 0);
        Keys.end();
    }

    /** Half of a run builds, by one of some ways; the rest is any call. */
    private boolean passes(int way) {
        if (way > 3) {
            enterEndless(way);
        }
        while (calls < 250 && !wrong) {
            if (way == 0 || way > 3) {
                anyCall();
            } else {
                build(way);
            }
        }
        while (calls < 480 && !wrong) {
            anyCall();
        }
        int words = model.wholeText().length() / 8 + 1;
        for (int k = 0; k < words && calls < LAST_CALL && !wrong; k++) {
            same("text(" + k + ")", bench.text(k), model.text(k));
        }
        while (calls < LAST_CALL && !wrong) {
            look();
        }
        return !wrong;
    }

    private void same(String call, long got, long want) {
        calls++;
        told.append(call).append(" -> ").append(got).append('\n');
        if (got != want && !wrong) {
            wrong = true;
            System.out.println(told + "due is " + want + " in " + model.wholeText());
        }
    }

    private void same(String call, boolean got, boolean want) {
        same(call, got ? 1 : 0, want ? 1 : 0);
    }

    /** A program that calls itself without end, with or without many terms in between; edits make others of it. */
    private void enterEndless(int way) {
        call(false);
        for (int i = 0; i < 2; i++) {
            function(0, TermBench.ANY);
            name(0);
            call(false);
            name(0);
            up();
            if (i == 0 && way == 5) {
                sum(true);
                enterWide(3);
                up();
            }
            up();
            up();
            down(0);
        }
        runIt();
    }

    private void enterWide(int levels) {
        if (levels == 0) {
            number(1);
            return;
        }
        sum(false);
        enterWide(levels - 1);
        up();
        down(0);
        enterWide(levels - 1);
        up();
    }

    /** Fills holes with what may well run; looks at the result now and then. */
    private void build(int way) {
        int pick = random.nextInt(12);
        if (pick < 3) {
            same("hole()", bench.hole(), model.hole());
            look();
        } else if (pick < 5) {
            name(random.nextInt(way + 1));
        } else if (pick == 5) {
            number(random.nextInt(1999) - 999);
        } else if (pick < 8) {
            function(random.nextInt(way + 1), type());
        } else if (pick < 10) {
            call(random.nextBoolean());
        } else if (pick == 10) {
            sum(random.nextBoolean());
        } else {
            runIt();
            up();
        }
    }

    private void anyCall() {
        int pick = random.nextInt(30);
        if (pick < 8) {
            anyEdit(pick);
        } else if (pick < 16) {
            anyMove(pick - 8);
        } else if (pick < 20) {
            anyStep(pick - 16);
        } else if (pick < 28) {
            look();
        } else {
            runIt();
        }
    }

    private void anyEdit(int pick) {
        if (pick == 0) {
            number(random.nextInt(2020) - 1010);
        } else if (pick == 1) {
            name(random.nextInt(8) == 0 ? random.nextInt(14) - 2 : random.nextInt(3));
        } else if (pick == 2) {
            sum(random.nextBoolean());
        } else if (pick == 3) {
            call(random.nextBoolean());
        } else if (pick == 4) {
            function(random.nextInt(8) == 0 ? random.nextInt(14) - 2 : random.nextInt(3), type());
        } else if (pick == 5) {
            long type = type();
            same("claim(" + type + ")", bench.claim(type), model.claim(type));
        } else if (pick == 6 && random.nextInt(3) == 0) {
            same("remove()", bench.remove(), model.remove());
        } else if (pick == 7 && random.nextInt(2) == 0) {
            same("lift()", bench.lift(), model.lift());
        }
    }

    private void anyMove(int pick) {
        if (pick == 0) {
            up();
        } else if (pick < 3) {
            int i = random.nextInt(12) == 0 ? random.nextInt() : random.nextInt(3) - (random.nextInt(8) == 0 ? 1 : 0);
            down(i);
        } else if (pick < 5) {
            same("hole()", bench.hole(), model.hole());
        } else {
            int column = random.nextInt(model.wholeText().length() + 4) - 2;
            same("click(" + column + ")", bench.click(column), model.click(column));
        }
    }

    private void anyStep(int pick) {
        int times = random.nextInt(10) == 0 ? 18 : 1;
        for (int i = 0; i < times; i++) {
            if (pick < 2) {
                same("undo()", bench.undo(), model.undo());
            } else {
                same("redo()", bench.redo(), model.redo());
            }
        }
    }

    private void look() {
        int pick = random.nextInt(10);
        if (pick == 0) {
            same("column()", bench.column(), model.column());
        } else if (pick == 1) {
            same("kind()", bench.kind(), model.kind());
        } else if (pick < 4) {
            seenMarks[model.mark()]++;
            same("mark()", bench.mark(), model.mark());
        } else if (pick == 4) {
            same("got()", bench.got(), model.got());
        } else if (pick == 5) {
            same("expected()", bench.expected(), model.expected());
        } else if (pick == 6) {
            same("marks()", bench.marks(), model.marks());
        } else if (pick == 7) {
            same("terms()", bench.terms(), model.terms());
        } else {
            int k = random.nextInt(10) == 0 ? random.nextInt() : random.nextInt(model.wholeText().length() / 8 + 2) - 1;
            same("text(" + k + ")", bench.text(k), model.text(k));
        }
    }

    private void runIt() {
        int want = model.run();
        seenOutcomes[want]++;
        if (want == TermBench.SPENT && model.units() == 400) {
            spentByUnits++;
        } else if (want == TermBench.SPENT) {
            spentByDepth++;
        }
        same("run()", bench.run(), want);
        same("result()", bench.result(), model.result());
        same("units()", bench.units(), model.units());
    }

    private void up() {
        same("up()", bench.up(), model.up());
    }

    private void down(int i) {
        same("down(" + i + ")", bench.down(i), model.down(i));
    }

    private void number(int n) {
        same("number(" + n + ")", bench.number(n), model.number(n));
    }

    private void name(int k) {
        same("name(" + k + ")", bench.name(k), model.name(k));
    }

    private void sum(boolean before) {
        same("sum(" + before + ")", bench.sum(before), model.join(TermBench.SUM, before));
    }

    private void call(boolean before) {
        same("call(" + before + ")", bench.call(before), model.join(TermBench.CALL, before));
    }

    private void function(int k, long type) {
        same("function(" + k + ", " + type + ")", bench.function(k, type), model.function(k, type));
    }

    private long type() {
        int pick = random.nextInt(16);
        if (pick == 0) {
            return Keys.type(randomType(27));
        }
        if (pick == 1) {
            return Keys.type(randomType(2 * random.nextInt(15) + 1));
        }
        if (pick == 2) {
            return random.nextInt(64);
        }
        if (pick == 3) {
            return Keys.type(randomType(2 * random.nextInt(14) + 1)) ^ 1L << random.nextInt(64);
        }
        return pick < 8 ? TermBench.ANY : Keys.type(TYPES[random.nextInt(TYPES.length)]);
    }

    /** A type of so many symbols, an odd number. */
    private String randomType(int symbols) {
        if (symbols == 1) {
            return random.nextBoolean() ? "*" : "#";
        }
        int first = 2 * random.nextInt((symbols - 1) / 2) + 1;
        return "<" + randomType(first) + randomType(symbols - 1 - first) + ">";
    }
}
