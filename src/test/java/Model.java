import java.util.ArrayDeque;
import java.util.ArrayList;
import java.util.Deque;
import java.util.HashMap;
import java.util.IdentityHashMap;
import java.util.List;
import java.util.Map;

/** A plain second writing of the document, with trees, texts and maps, to compare answers with. */
final class Model {
    static final class Term {
        final int kind;
        final int figure;
        final String type;
        final List<Term> parts;

        Term(int kind, int figure, String type, Term... parts) {
            this.kind = kind;
            this.figure = figure;
            this.type = type;
            this.parts = List.of(parts);
        }

        int count() {
            int count = 1;
            for (Term part : parts) {
                count += part.count();
            }
            return count;
        }

        int height() {
            int height = 0;
            for (Term part : parts) {
                height = Math.max(height, part.height());
            }
            return height + 1;
        }
    }

    private record State(Term program, List<Integer> path) { }

    private record Info(String got, String expected, int mark) { }

    private record Closure(Term function, Map<Integer, Object> names) { }

    private static final class Spent extends Exception {
        private static final long serialVersionUID = 1L;
    }

    private static final Object DARK = new Object();

    private State now = new State(new Term(TermBench.HOLE, 0, null), List.of());
    private final Deque<State> kept = new ArrayDeque<>();
    private final Deque<State> putBy = new ArrayDeque<>();
    private int result = 0;
    private int units = 0;

    private Map<Term, Info> infos;
    private StringBuilder text;
    private List<List<Integer>> owners;
    private Map<Term, Integer> begins;

    // Types as texts.

    /** The text of a long, or null if it is no type. */
    static String written(long type) {
        StringBuilder symbols = new StringBuilder();
        long rest = type;
        while (rest != 0) {
            symbols.append("?*#<".charAt((int) (rest & 3)));
            rest >>>= 2;
        }
        if (symbols.length() > 27 || symbols.indexOf("?") >= 0 || symbols.length() == 0) {
            return null;
        }
        int[] place = {0};
        String whole = writtenFrom(symbols, place);
        return place[0] == symbols.length() ? whole : null;
    }

    private static String writtenFrom(StringBuilder symbols, int[] place) {
        if (place[0] >= symbols.length()) {
            place[0] = 1000;
            return "";
        }
        char sign = symbols.charAt(place[0]++);
        if (sign != '<') {
            return Character.toString(sign);
        }
        String first = writtenFrom(symbols, place);
        return "<" + first + writtenFrom(symbols, place) + ">";
    }

    private static int symbolCount(String type) {
        return type.replace(">", "").length();
    }

    /** Where the type that begins here ends. */
    private static int typeEnd(String type, int begin) {
        int open = 0;
        int i = begin;
        do {
            open += type.charAt(i) == '<' ? 1 : type.charAt(i) == '>' ? -1 : 0;
            i++;
        } while (open > 0);
        return i;
    }

    private static String firstOf(String type) {
        return type.substring(1, typeEnd(type, 1));
    }

    private static String secondOf(String type) {
        return type.substring(typeEnd(type, 1), type.length() - 1);
    }

    static boolean consistent(String a, String b) {
        if (a.equals("*") || b.equals("*")) {
            return true;
        }
        if (a.equals("#") || b.equals("#")) {
            return a.equals(b);
        }
        return consistent(firstOf(a), firstOf(b)) && consistent(secondOf(a), secondOf(b));
    }

    // Terms at paths.

    private Term at(List<Integer> path) {
        Term term = now.program;
        for (int i : path) {
            term = term.parts.get(i);
        }
        return term;
    }

    private static Term with(Term term, List<Integer> path, Term put) {
        if (path.isEmpty()) {
            return put;
        }
        Term[] parts = term.parts.toArray(new Term[0]);
        int i = path.get(0);
        parts[i] = with(parts[i], path.subList(1, path.size()), put);
        return new Term(term.kind, term.figure, term.type, parts);
    }

    private static List<Integer> plus(List<Integer> path, int i) {
        List<Integer> longer = new ArrayList<>(path);
        longer.add(i);
        return longer;
    }

    private List<Integer> above() {
        return now.path.subList(0, now.path.size() - 1);
    }

    private boolean edit(List<Integer> place, Term put, List<Integer> cursor) {
        Term program = with(now.program, place, put);
        if (program.count() > 40 || program.height() > 12) {
            return false;
        }
        kept.push(now);
        if (kept.size() > 16) {
            kept.removeLast();
        }
        putBy.clear();
        now = new State(program, List.copyOf(cursor));
        infos = null;
        return true;
    }

    // Edits.

    boolean number(int n) {
        return here().kind == TermBench.HOLE && Math.abs((long) n) <= 999
            && edit(now.path, new Term(TermBench.NUMBER, n, null), now.path);
    }

    boolean name(int k) {
        return here().kind == TermBench.HOLE && k >= 0 && k < 10
            && edit(now.path, new Term(TermBench.NAME, k, null), now.path);
    }

    boolean join(int kind, boolean before) {
        Term hole = new Term(TermBench.HOLE, 0, null);
        Term put = before ? new Term(kind, 0, null, hole, here()) : new Term(kind, 0, null, here(), hole);
        return edit(now.path, put, plus(now.path, before ? 0 : 1));
    }

    boolean function(int k, long type) {
        return k >= 0 && k < 10 && written(type) != null
            && edit(now.path, new Term(TermBench.FUNCTION, k, written(type), here()), plus(now.path, 0));
    }

    boolean claim(long type) {
        return written(type) != null
            && edit(now.path, new Term(TermBench.CLAIM, 0, written(type), here()), plus(now.path, 0));
    }

    boolean remove() {
        return here().kind != TermBench.HOLE && edit(now.path, new Term(TermBench.HOLE, 0, null), now.path);
    }

    boolean lift() {
        return !now.path.isEmpty() && edit(above(), here(), above());
    }

    boolean undo() {
        return step(kept, putBy);
    }

    boolean redo() {
        return step(putBy, kept);
    }

    private boolean step(Deque<State> from, Deque<State> to) {
        if (from.isEmpty()) {
            return false;
        }
        to.push(now);
        now = from.pop();
        infos = null;
        return true;
    }

    // Moves.

    private boolean move(List<Integer> path) {
        now = new State(now.program, List.copyOf(path));
        return true;
    }

    boolean up() {
        return !now.path.isEmpty() && move(above());
    }

    boolean down(int i) {
        return i >= 0 && i < here().parts.size() && move(plus(now.path, i));
    }

    boolean hole() {
        look();
        int next = text.indexOf("?", column() + 1);
        next = next < 0 ? text.indexOf("?") : next;
        return next >= 0 && move(owners.get(next));
    }

    boolean click(int column) {
        look();
        return column >= 0 && column < text.length() && move(owners.get(column));
    }

    // Answers.

    private Term here() {
        return at(now.path);
    }

    int column() {
        look();
        return begins.get(here());
    }

    int kind() {
        return here().kind;
    }

    int mark() {
        look();
        return infos.get(here()).mark;
    }

    long got() {
        look();
        return Keys.type(infos.get(here()).got);
    }

    long expected() {
        look();
        String expected = infos.get(here()).expected;
        return expected == null ? 0 : Keys.type(expected);
    }

    int marks() {
        look();
        return (int) infos.values().stream().filter(info -> info.mark != TermBench.FINE).count();
    }

    int terms() {
        return now.program.count();
    }

    long text(int k) {
        look();
        long word = 0;
        for (int i = 7; i >= 0; i--) {
            long column = 8L * k + i;
            word = word << 8 | (column >= 0 && column < text.length() ? text.charAt((int) column) : 0);
        }
        return word;
    }

    String wholeText() {
        look();
        return text.toString();
    }

    int result() {
        return result;
    }

    int units() {
        return units;
    }

    // Typing and the text.

    private void look() {
        if (infos != null) {
            return;
        }
        infos = new IdentityHashMap<>();
        text = new StringBuilder();
        owners = new ArrayList<>();
        begins = new IdentityHashMap<>();
        has(now.program, null, Map.of());
        write(now.program, List.of());
    }

    private String has(Term term, String expected, Map<Integer, String> names) {
        int mark = TermBench.FINE;
        String got = "*";
        List<Term> parts = term.parts;
        if (term.kind == TermBench.NUMBER) {
            got = "#";
        } else if (term.kind == TermBench.NAME) {
            got = names.getOrDefault(term.figure, "*");
            mark = names.containsKey(term.figure) ? TermBench.FINE : TermBench.FREE;
        } else if (term.kind == TermBench.SUM) {
            has(parts.get(0), "#", names);
            has(parts.get(1), "#", names);
            got = "#";
        } else if (term.kind == TermBench.CALL) {
            String called = has(parts.get(0), null, names);
            boolean from = called.startsWith("<");
            has(parts.get(1), from ? firstOf(called) : "*", names);
            got = from ? secondOf(called) : "*";
            mark = called.equals("#") ? TermBench.NO_FUNCTION : TermBench.FINE;
        } else if (term.kind == TermBench.FUNCTION) {
            boolean from = expected != null && expected.startsWith("<");
            String body = from ? secondOf(expected) : "*".equals(expected) ? "*" : null;
            mark = from && !consistent(term.type, firstOf(expected)) ? TermBench.WRONG_NAME : TermBench.FINE;
            Map<Integer, String> inner = new HashMap<>(names);
            inner.put(term.figure, term.type);
            got = "<" + term.type + has(parts.get(0), body, inner) + ">";
            got = symbolCount(got) > 27 ? "*" : got;
        } else if (term.kind == TermBench.CLAIM) {
            has(parts.get(0), term.type, names);
            got = term.type;
        }
        if (mark == TermBench.FINE && expected != null && !consistent(got, expected)) {
            mark = TermBench.MISFIT;
        }
        infos.put(term, new Info(got, expected, mark));
        return mark == TermBench.FINE ? got : "*";
    }

    private void put(String signs, List<Integer> owner) {
        text.append(signs);
        while (owners.size() < text.length()) {
            owners.add(owner);
        }
    }

    private void write(Term term, List<Integer> path) {
        begins.put(term, text.length());
        String letter = Character.toString((char) ('a' + term.figure));
        String[][] around = {{"?"}, {Integer.toString(term.figure)}, {letter}, {"(", "+", ")"}, {"", "(", ")"},
            {"[" + letter + ":" + term.type, "]"}, {"{", ":" + term.type + "}"}};
        String[] signs = around[term.kind];
        put(signs[0], path);
        for (int i = 0; i + 1 < signs.length; i++) {
            write(term.parts.get(i), plus(path, i));
            put(signs[i + 1], path);
        }
    }

    // Running.

    int run() {
        look();
        units = 0;
        result = 0;
        try {
            Object value = run(now.program, Map.of(), 0);
            if (value instanceof Integer) {
                result = (Integer) value;
                return TermBench.A_NUMBER;
            }
            return value instanceof Closure ? TermBench.A_FUNCTION : TermBench.DARK;
        } catch (Spent spent) {
            return TermBench.SPENT;
        }
    }

    private Object run(Term term, Map<Integer, Object> names, int others) throws Spent {
        if (units + 1 == 401 || others == 60) {
            throw new Spent();
        }
        units++;
        if (infos.get(term).mark != TermBench.FINE || term.kind == TermBench.HOLE) {
            return DARK;
        }
        if (term.kind == TermBench.NUMBER) {
            return term.figure;
        }
        if (term.kind == TermBench.NAME) {
            return names.get(term.figure);
        }
        if (term.kind == TermBench.FUNCTION) {
            return new Closure(term, names);
        }
        Object first = run(term.parts.get(0), names, others + 1);
        if (term.kind == TermBench.CLAIM) {
            return first;
        }
        Object second = run(term.parts.get(1), names, others + 1);
        if (term.kind == TermBench.SUM) {
            boolean numbers = first instanceof Integer && second instanceof Integer;
            return numbers ? (Object) ((Integer) first + (Integer) second) : DARK;
        }
        if (!(first instanceof Closure)) {
            return DARK;
        }
        Closure called = (Closure) first;
        Map<Integer, Object> inner = new HashMap<>(called.names);
        inner.put(called.function.figure, second);
        return run(called.function.parts.get(0), inner, others + 1);
    }
}
