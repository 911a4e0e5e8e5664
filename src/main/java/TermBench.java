import java.util.Arrays;

/** An editor of small programs that are never broken; the document's promises tell each call. */
public final class TermBench {
    public static final int HOLE = 0, NUMBER = 1, NAME = 2, SUM = 3, CALL = 4, FUNCTION = 5, CLAIM = 6;
    public static final int FINE = 0, FREE = 1, NO_FUNCTION = 2, WRONG_NAME = 3, MISFIT = 4;
    public static final int A_NUMBER = 0, A_FUNCTION = 1, DARK = 2, SPENT = 3;
    public static final long ANY = 1L, INT = 2L;

    private static final int MAX_TERMS = 40;
    private static final int MAX_LEVELS = 12;
    private static final int MAX_NUMBER = 999;
    private static final int MAX_NAME = 9;
    private static final int MAX_KEPT = 16;
    private static final int MAX_UNITS = 400;
    private static final int MAX_INSIDE = 60;
    private static final long NOTHING = 0L;
    private static final int NONE = -1;

    private final History history = new History();
    private final Typing typing = new Typing();
    private final Page page = new Page();
    private final Machine machine = new Machine();

    public TermBench() {
    }

    public boolean number(int n) {
        if (n < -MAX_NUMBER || n > MAX_NUMBER) {
            return false;
        }
        return fillHole(NUMBER, n);
    }

    public boolean name(int k) {
        if (!isName(k)) {
            return false;
        }
        return fillHole(NAME, k);
    }

    public boolean sum(boolean before) {
        return joinHole(SUM, before);
    }

    public boolean call(boolean before) {
        return joinHole(CALL, before);
    }

    public boolean function(int k, long type) {
        if (!isName(k)) {
            return false;
        }
        return wrapTyped(FUNCTION, k, type);
    }

    public boolean claim(long type) {
        return wrapTyped(CLAIM, 0, type);
    }

    public boolean remove() {
        if (history.present().isOnHole()) {
            return false;
        }
        history.keep().empty();
        return true;
    }

    public boolean lift() {
        if (history.present().cursor == 0) {
            return false;
        }
        history.keep().raise();
        return true;
    }

    public boolean undo() {
        return history.stepBack();
    }

    public boolean redo() {
        return history.stepForth();
    }

    public boolean up() {
        Program program = history.present();
        return moveTo(program.parent(program.cursor));
    }

    public boolean down(int i) {
        Program program = history.present();
        return moveTo(program.part(program.cursor, i));
    }

    public boolean hole() {
        return moveTo(written().nextHole(history.present()));
    }

    public boolean click(int column) {
        return moveTo(written().innermost(history.present(), column));
    }

    public int column() {
        return written().begins[history.present().cursor];
    }

    public int kind() {
        Program program = history.present();
        return program.kinds[program.cursor];
    }

    public int mark() {
        return typed().marks[history.present().cursor];
    }

    public long got() {
        return typed().gotTypes[history.present().cursor];
    }

    public long expected() {
        return typed().expectedTypes[history.present().cursor];
    }

    public int marks() {
        return typed().countMarks(history.present().size);
    }

    public int terms() {
        return history.present().size;
    }

    public long text(int k) {
        return written().eightOf(k);
    }

    public int run() {
        return machine.start(history.present(), typed().marks);
    }

    public int result() {
        return machine.number;
    }

    public int units() {
        return machine.units;
    }

    private static boolean isName(int k) {
        return k >= 0 && k <= MAX_NAME;
    }

    private boolean fillHole(int kind, int figure) {
        if (!history.present().isOnHole()) {
            return false;
        }
        history.keep().fill(kind, figure);
        return true;
    }

    private boolean joinHole(int kind, boolean before) {
        if (!history.present().hasRoomAround(2)) {
            return false;
        }
        history.keep().join(kind, before);
        return true;
    }

    private boolean wrapTyped(int kind, int figure, long type) {
        if (!Types.isType(type) || !history.present().hasRoomAround(1)) {
            return false;
        }
        history.keep().wrap(kind, figure, type);
        return true;
    }

    private boolean moveTo(int at) {
        if (at < 0) {
            return false;
        }
        history.present().cursor = at;
        return true;
    }

    /** The typing of the present program: moves of the cursor leave it as it is. */
    private Typing typed() {
        if (typing.change != history.change) {
            typing.change = history.change;
            typing.typeTerm(history.present(), 0, NOTHING, 0);
        }
        return typing;
    }

    /** The page with the present program: moves of the cursor leave it as it is. */
    private Page written() {
        if (page.change != history.change) {
            page.change = history.change;
            page.clear();
            page.writeTerm(history.present(), 0, 0);
        }
        return page;
    }

    /** Types as the document writes them: two bits a symbol, the first symbol lowest. */
    private static final class Types {
        static final int FROM = 3;
        static final int MAX_SYMBOLS = 27;

        /** How many symbols the type at the beginning of a row of symbols has; 0 if there is no whole type. */
        static int symbols(long row) {
            int missing = 1;
            int count = 0;
            while (missing > 0 && count < MAX_SYMBOLS) {
                int symbol = (int) (row >>> (2 * count)) & 3;
                if (symbol == 0) {
                    return 0;
                }
                missing += symbol == FROM ? 1 : -1;
                count++;
            }
            return missing == 0 ? count : 0;
        }

        static boolean isType(long row) {
            int count = symbols(row);
            return count > 0 && row >>> (2 * count) == 0L;
        }

        static boolean isFrom(long type) {
            return (type & 3L) == FROM;
        }

        static long taken(long from) {
            long parts = from >>> 2;
            return parts & ((1L << (2 * symbols(parts))) - 1L);
        }

        static long given(long from) {
            long parts = from >>> 2;
            return parts >>> (2 * symbols(parts));
        }

        static long from(long taken, long given) {
            int count = symbols(taken);
            if (1 + count + symbols(given) > MAX_SYMBOLS) {
                return ANY;
            }
            return FROM | taken << 2 | given << (2 + 2 * count);
        }

        static boolean consistent(long one, long other, int depth) {
            if (one == ANY || other == ANY || depth >= MAX_SYMBOLS) {
                return true;
            }
            if (!isFrom(one) || !isFrom(other)) {
                return one == other;
            }
            return consistent(taken(one), taken(other), depth + 1)
                && consistent(given(one), given(other), depth + 1);
        }
    }

    /**
     * A program and its cursor. The terms stand in the order in which their texts begin, a term in front of
     * its parts, each with its level (0 for the program): a term's parts and theirs are the deeper ones that
     * follow it without a gap. So a program is copied by copying four rows.
     */
    private static final class Program {
        final int[] kinds = new int[MAX_TERMS];
        final int[] figures = new int[MAX_TERMS];
        final long[] types = new long[MAX_TERMS];
        final int[] levels = new int[MAX_TERMS];
        int size = 1;
        int cursor = 0;

        void copy(Program other) {
            size = other.size;
            cursor = other.cursor;
            System.arraycopy(other.kinds, 0, kinds, 0, size);
            System.arraycopy(other.figures, 0, figures, 0, size);
            System.arraycopy(other.types, 0, types, 0, size);
            System.arraycopy(other.levels, 0, levels, 0, size);
        }

        boolean isOnHole() {
            return kinds[cursor] == HOLE;
        }

        /** The place behind the last of the terms that stand in the one at this place. */
        int end(int at) {
            int end = at + 1;
            while (end < size && levels[end] > levels[at]) {
                end++;
            }
            return end;
        }

        int parent(int at) {
            for (int i = at - 1; i >= 0; i--) {
                if (levels[i] < levels[at]) {
                    return i;
                }
            }
            return NONE;
        }

        int part(int at, int n) {
            int seen = 0;
            for (int i = at + 1; i < size && levels[i] > levels[at]; i++) {
                if (levels[i] == levels[at] + 1) {
                    if (seen == n) {
                        return i;
                    }
                    seen++;
                }
            }
            return NONE;
        }

        /** The innermost FUNCTION in whose body the name at this place means that function's name. */
        int binder(int at) {
            int level = levels[at];
            for (int i = at - 1; i >= 0; i--) {
                if (levels[i] < level) {
                    level = levels[i];
                    if (kinds[i] == FUNCTION && figures[i] == figures[at]) {
                        return i;
                    }
                }
            }
            return NONE;
        }

        /** Whether the cursor's term can become a part of a new one that brings so many terms. */
        boolean hasRoomAround(int added) {
            int deepest = levels[cursor];
            int end = end(cursor);
            for (int i = cursor; i < end; i++) {
                deepest = Math.max(deepest, levels[i]);
            }
            return size + added <= MAX_TERMS && deepest + 1 < MAX_LEVELS;
        }

        void fill(int kind, int figure) {
            write(cursor, kind, figure, NOTHING);
        }

        void wrap(int kind, int figure, long type) {
            shiftLevels(cursor, end(cursor), 1);
            int level = levels[cursor] - 1;
            moveTail(cursor, cursor + 1);
            write(cursor, kind, figure, type);
            levels[cursor] = level;
            cursor++;
        }

        void join(int kind, boolean before) {
            int top = cursor;
            wrap(kind, 0, NOTHING);
            int place = before ? top + 1 : end(top);
            moveTail(place, place + 1);
            write(place, HOLE, 0, NOTHING);
            levels[place] = levels[top] + 1;
            cursor = place;
        }

        void empty() {
            moveTail(end(cursor), cursor + 1);
            write(cursor, HOLE, 0, NOTHING);
        }

        void raise() {
            int top = parent(cursor);
            if (top < 0) {
                return;
            }
            int end = end(cursor);
            moveTail(end(top), end);
            shiftLevels(cursor, end, -1);
            moveTail(cursor, top);
            cursor = top;
        }

        private void write(int at, int kind, int figure, long type) {
            kinds[at] = kind;
            figures[at] = figure;
            types[at] = type;
        }

        private void shiftLevels(int begin, int end, int by) {
            for (int i = begin; i < end; i++) {
                levels[i] += by;
            }
        }

        private void moveTail(int from, int to) {
            int length = size - from;
            System.arraycopy(kinds, from, kinds, to, length);
            System.arraycopy(figures, from, figures, to, length);
            System.arraycopy(types, from, types, to, length);
            System.arraycopy(levels, from, levels, to, length);
            size += to - from;
        }
    }

    /**
     * A ring of programs: in front of the present one those that are kept, behind it those that are put by.
     * An edit keeps one more and takes away all that is put by, so both together are never more than the
     * most that can be kept, and the ring needs just one place more.
     */
    private static final class History {
        static final int PLACES = MAX_KEPT + 1;

        final Program[] ring = new Program[PLACES];
        int place = 0;
        int kept = 0;
        int putBy = 0;
        /** Grows with each change of the present program, so that typing and page can tell their own age. */
        int change = 0;

        History() {
            for (int i = 0; i < PLACES; i++) {
                ring[i] = new Program();
            }
        }

        Program present() {
            return ring[place];
        }

        /** Answers the copy that an edit may change. */
        Program keep() {
            Program before = present();
            place = (place + 1) % PLACES;
            kept = Math.min(kept + 1, MAX_KEPT);
            putBy = 0;
            change++;
            present().copy(before);
            return present();
        }

        boolean stepBack() {
            if (kept == 0) {
                return false;
            }
            place = (place + PLACES - 1) % PLACES;
            kept--;
            putBy++;
            change++;
            return true;
        }

        boolean stepForth() {
            if (putBy == 0) {
                return false;
            }
            place = (place + 1) % PLACES;
            kept++;
            putBy--;
            change++;
            return true;
        }
    }

    /** What typing gives each term of a program, by the terms' places. */
    private static final class Typing {
        final long[] gotTypes = new long[MAX_TERMS];
        final long[] expectedTypes = new long[MAX_TERMS];
        final int[] marks = new int[MAX_TERMS];
        int change = NONE;

        int countMarks(int size) {
            int count = 0;
            for (int i = 0; i < size; i++) {
                if (marks[i] != FINE) {
                    count++;
                }
            }
            return count;
        }

        /** Answers the type that the term has for what is around it. */
        long typeTerm(Program program, int at, long expected, int depth) {
            if (at < 0 || depth >= MAX_LEVELS) {
                return ANY;
            }
            expectedTypes[at] = expected;
            marks[at] = FINE;
            long got = typeByKind(program, at, expected, depth);
            gotTypes[at] = got;
            if (marks[at] == FINE && expected != NOTHING && !Types.consistent(got, expected, 0)) {
                marks[at] = MISFIT;
            }
            return marks[at] == FINE ? got : ANY;
        }

        private long typeByKind(Program program, int at, long expected, int depth) {
            switch (program.kinds[at]) {
                case NUMBER:
                    return INT;
                case NAME:
                    return typeName(program, at);
                case SUM:
                    typeTerm(program, program.part(at, 0), INT, depth + 1);
                    typeTerm(program, program.part(at, 1), INT, depth + 1);
                    return INT;
                case CALL:
                    return typeCall(program, at, depth);
                case FUNCTION:
                    return typeFunction(program, at, expected, depth);
                case CLAIM:
                    typeTerm(program, program.part(at, 0), program.types[at], depth + 1);
                    return program.types[at];
                default:
                    return ANY;
            }
        }

        private long typeName(Program program, int at) {
            int binder = program.binder(at);
            if (binder < 0) {
                marks[at] = FREE;
                return ANY;
            }
            return program.types[binder];
        }

        private long typeCall(Program program, int at, int depth) {
            long called = typeTerm(program, program.part(at, 0), NOTHING, depth + 1);
            boolean canBeCalled = Types.isFrom(called);
            long argument = canBeCalled ? Types.taken(called) : ANY;
            typeTerm(program, program.part(at, 1), argument, depth + 1);
            if (called == INT) {
                marks[at] = NO_FUNCTION;
            }
            return canBeCalled ? Types.given(called) : ANY;
        }

        private long typeFunction(Program program, int at, long expected, int depth) {
            long own = program.types[at];
            long body = expected == ANY ? ANY : NOTHING;
            if (Types.isFrom(expected)) {
                body = Types.given(expected);
                if (!Types.consistent(own, Types.taken(expected), 0)) {
                    marks[at] = WRONG_NAME;
                }
            }
            return Types.from(own, typeTerm(program, program.part(at, 0), body, depth + 1));
        }
    }

    /** A program's text, eight characters a word as text() answers them, and where each term's text is. */
    private static final class Page {
        /** A FUNCTION with a type of 27 symbols writes 44 characters beside its body's, and no term more. */
        static final int MAX_COLUMNS = 44 * MAX_TERMS;

        final long[] words = new long[MAX_COLUMNS / 8];
        final int[] begins = new int[MAX_TERMS];
        final int[] ends = new int[MAX_TERMS];
        int length = 0;
        int change = NONE;

        void clear() {
            Arrays.fill(words, 0L);
            length = 0;
        }

        long eightOf(int k) {
            return k >= 0 && k < words.length ? words[k] : 0L;
        }

        int nextHole(Program program) {
            int first = NONE;
            for (int i = 0; i < program.size; i++) {
                if (program.kinds[i] == HOLE) {
                    if (begins[i] > begins[program.cursor]) {
                        return i;
                    }
                    first = first < 0 ? i : first;
                }
            }
            return first;
        }

        int innermost(Program program, int column) {
            int found = NONE;
            for (int i = 0; i < program.size; i++) {
                if (begins[i] <= column && column < ends[i]) {
                    found = i;
                }
            }
            return found;
        }

        void writeTerm(Program program, int at, int depth) {
            if (at < 0 || depth >= MAX_LEVELS) {
                return;
            }
            begins[at] = length;
            if (program.kinds[at] == NUMBER) {
                writeNumber(program.figures[at]);
            } else if (program.kinds[at] == NAME) {
                writeName(program.figures[at]);
            } else if (program.kinds[at] == HOLE) {
                writeSign('?');
            } else {
                writeWithParts(program, at, depth);
            }
            ends[at] = length;
        }

        private void writeWithParts(Program program, int at, int depth) {
            int first = program.part(at, 0);
            int second = program.part(at, 1);
            switch (program.kinds[at]) {
                case SUM:
                    writeSign('(');
                    writeTerm(program, first, depth + 1);
                    writeSign('+');
                    writeTerm(program, second, depth + 1);
                    writeSign(')');
                    break;
                case CALL:
                    writeTerm(program, first, depth + 1);
                    writeSign('(');
                    writeTerm(program, second, depth + 1);
                    writeSign(')');
                    break;
                case FUNCTION:
                    writeSign('[');
                    writeName(program.figures[at]);
                    writeSign(':');
                    writeType(program.types[at], 0);
                    writeTerm(program, first, depth + 1);
                    writeSign(']');
                    break;
                default:
                    writeSign('{');
                    writeTerm(program, first, depth + 1);
                    writeSign(':');
                    writeType(program.types[at], 0);
                    writeSign('}');
                    break;
            }
        }

        private void writeType(long type, int depth) {
            if (depth >= Types.MAX_SYMBOLS) {
                return;
            }
            if (!Types.isFrom(type)) {
                writeSign(type == INT ? '#' : '*');
                return;
            }
            writeSign('<');
            writeType(Types.taken(type), depth + 1);
            writeType(Types.given(type), depth + 1);
            writeSign('>');
        }

        private void writeNumber(int n) {
            int figures = Math.abs(n);
            if (n < 0) {
                writeSign('-');
            }
            if (figures >= 100) {
                writeSign('0' + figures / 100);
            }
            if (figures >= 10) {
                writeSign('0' + figures / 10 % 10);
            }
            writeSign('0' + figures % 10);
        }

        private void writeName(int k) {
            writeSign('a' + k);
        }

        private void writeSign(int sign) {
            if (length >= MAX_COLUMNS) {
                return;
            }
            words[length / 8] |= (long) sign << (8 * (length % 8));
            length++;
        }
    }

    /**
     * Runs programs. A value is a long: its lowest two bits are what run() would answer for it, the others are
     * the number, or the function's place and scope. SPENT goes the way of a value, so that it ends the run.
     * A scope is a place in the rows of bound names (0: no name), each with the scope around it; a run only
     * adds to the rows, so a function's scope stays as it was where the function was run.
     */
    private static final class Machine {
        /** Each CALL that binds has three terms run, its called part, its argument and its body, a unit each. */
        static final int MAX_BOUND = MAX_UNITS / 3;

        final int[] boundNames = new int[MAX_BOUND + 1];
        final long[] boundValues = new long[MAX_BOUND + 1];
        final int[] outerScopes = new int[MAX_BOUND + 1];
        int bound = 0;
        int units = 0;
        int number = 0;

        int start(Program program, int[] marks) {
            bound = 0;
            units = 0;
            long value = runTerm(program, marks, 0, 0, 0);
            number = outcome(value) == A_NUMBER ? content(value) : 0;
            return outcome(value);
        }

        private static long value(int outcome, int content) {
            return (long) content << 2 | outcome;
        }

        private static int outcome(long value) {
            return (int) value & 3;
        }

        private static int content(long value) {
            return (int) (value >> 2);
        }

        private long runTerm(Program program, int[] marks, int at, int scope, int inside) {
            if (at < 0 || units >= MAX_UNITS || inside >= MAX_INSIDE) {
                return value(SPENT, 0);
            }
            units++;
            if (marks[at] != FINE) {
                return value(DARK, 0);
            }
            switch (program.kinds[at]) {
                case NUMBER:
                    return value(A_NUMBER, program.figures[at]);
                case NAME:
                    return standsFor(program.figures[at], scope);
                case SUM:
                    return runSum(program, marks, at, scope, inside);
                case CALL:
                    return runCall(program, marks, at, scope, inside);
                case FUNCTION:
                    return value(A_FUNCTION, scope * MAX_TERMS + at);
                case CLAIM:
                    return runTerm(program, marks, program.part(at, 0), scope, inside + 1);
                default:
                    return value(DARK, 0);
            }
        }

        private long runSum(Program program, int[] marks, int at, int scope, int inside) {
            long left = runTerm(program, marks, program.part(at, 0), scope, inside + 1);
            if (outcome(left) == SPENT) {
                return left;
            }
            long right = runTerm(program, marks, program.part(at, 1), scope, inside + 1);
            if (outcome(right) == SPENT) {
                return right;
            }
            if (outcome(left) != A_NUMBER || outcome(right) != A_NUMBER) {
                return value(DARK, 0);
            }
            return value(A_NUMBER, content(left) + content(right));
        }

        private long runCall(Program program, int[] marks, int at, int scope, int inside) {
            long called = runTerm(program, marks, program.part(at, 0), scope, inside + 1);
            if (outcome(called) == SPENT) {
                return called;
            }
            long argument = runTerm(program, marks, program.part(at, 1), scope, inside + 1);
            if (outcome(argument) == SPENT) {
                return argument;
            }
            if (outcome(called) != A_FUNCTION) {
                return value(DARK, 0);
            }
            int function = content(called) % MAX_TERMS;
            int around = content(called) / MAX_TERMS;
            int inner = bind(program.figures[function], argument, around);
            return runTerm(program, marks, program.part(function, 0), inner, inside + 1);
        }

        private int bind(int name, long value, int scope) {
            if (bound >= MAX_BOUND) {
                return scope;
            }
            bound++;
            boundNames[bound] = name;
            boundValues[bound] = value;
            outerScopes[bound] = scope;
            return bound;
        }

        private long standsFor(int name, int scope) {
            int place = scope;
            for (int i = 0; i < MAX_LEVELS && place > 0; i++) {
                if (boundNames[place] == name) {
                    return boundValues[place];
                }
                place = outerScopes[place];
            }
            return value(DARK, 0);
        }
    }
}
