import java.util.LinkedHashMap;
import java.util.Map;
import java.util.Set;
import java.util.TreeSet;
import java.util.function.Predicate;

/** The boundary cases that the document names in "What it is" and in the paragraphs of "Terms". */
public final class TermsBoundariesTest {
    private static final String THREE_TIMES = "[a:*[b:*a(a(a(b)))]]";

    public static void main(String[] args) throws IllegalAccessException {
        Sentences.runAll(TermsBoundariesTest.class);
    }

    // What it is.

    private static void paragraphWhatItIsTheCall512() {
        last512("number refused", x -> x.number(1) ? 1 : 0, 0);
        last512("name refused", x -> x.name(1) ? 1 : 0, 0);
        last512("sum", x -> x.sum(true) ? 1 : 0, 1);
        last512("call", x -> x.call(true) ? 1 : 0, 1);
        last512("function", x -> x.function(9, TermBench.ANY) ? 1 : 0, 1);
        last512("claim", x -> x.claim(TermBench.ANY) ? 1 : 0, 1);
        last512("remove", x -> x.remove() ? 1 : 0, 1);
        last512("lift refused", x -> x.lift() ? 1 : 0, 0);
        last512("undo", x -> x.undo() ? 1 : 0, 1);
        last512("redo", x -> x.redo() ? 1 : 0, 1);
        last512("up refused", x -> x.up() ? 1 : 0, 0);
        last512("down", x -> x.down(1) ? 1 : 0, 1);
        last512("hole", x -> x.hole() ? 1 : 0, 1);
        last512("click", x -> x.click(4) ? 1 : 0, 1);
        last512("click refused", x -> x.click(5) ? 1 : 0, 0);
        last512("column", TermBench::column, 0);
        last512("kind", TermBench::kind, TermBench.SUM);
        last512("mark", TermBench::mark, TermBench.FINE);
        last512("got", TermBench::got, TermBench.INT);
        last512("expected", TermBench::expected, 0);
        last512("marks", TermBench::marks, 0);
        last512("terms", TermBench::terms, 3);
        last512("text", x -> x.text(0), '(' | '?' << 8 | '+' << 16 | (long) '5' << 24 | (long) ')' << 32);
        last512("run", TermBench::run, TermBench.DARK);
        last512("result", TermBench::result, 0);
        last512("units", TermBench::units, 4);
    }

    private interface Asked {
        long answer(TermBench bench);
    }

    private static void last512(String what, Asked call, long due) {
        TermBench x = new TermBench();
        x.sum(true);
        x.up();
        x.down(1);
        x.number(5);
        x.up();
        int calls = 5;
        while (calls < 509) {
            x.claim(TermBench.INT);
            x.run();
            x.undo();
            x.marks();
            calls += 4;
        }
        x.hole();
        x.up();
        calls += 2;
        Keys.is("calls before the last", calls, 511);
        Keys.is(what, call.answer(x), due);
    }

    private static void paragraphWhatItIs512Edits() {
        TermBench x = new TermBench();
        for (int i = 0; i < 256; i++) {
            Keys.is("number " + i, x.number(i), true);
            Keys.is("remove " + i, x.remove(), true);
        }
    }

    private static void paragraphWhatItIs400DearRuns() {
        TermBench x = Keys.made("[a:*(a(a)+1)]([a:*(a(a)+1)])");
        TermBench y = Keys.made(unitsProgram(0));
        for (int i = 0; i < 200; i++) {
            Keys.is("run without an end " + i, x.run(), TermBench.SPENT);
            Keys.is("long run " + i, y.run(), TermBench.A_NUMBER);
            Keys.is("its units " + i, y.units(), 398);
        }
    }

    // Types.

    private static String right(int symbols) {
        int froms = (symbols - 1) / 2;
        return "<#".repeat(froms) + "#" + ">".repeat(froms);
    }

    private static String left(int symbols) {
        int froms = (symbols - 1) / 2;
        return "<".repeat(froms) + "#" + "*>".repeat(froms);
    }

    private static String even(int symbols) {
        return symbols == 1 ? "*" : "<" + even(Keys.half(symbols)) + even(symbols - 1 - Keys.half(symbols)) + ">";
    }

    private static void isType(String what, long type, String written) {
        Shown.done(what + " claimed", Shown.ready("1"), x -> x.claim(type), "{1:" + written + "}", 1);
        Shown.done(what + " of a name", Shown.ready("1"), x -> x.function(3, type), "[d:" + written + "1]",
            3 + written.length());
        Keys.is(what + " got", Keys.made("{1:" + written + "}").got(), type);
    }

    private static void isNoType(String what, long type) {
        Shown.refused(what + " claimed", () -> Shown.ready("(1+2)", 1), x -> x.claim(type));
        Shown.refused(what + " of a name", () -> Shown.ready("(1+2)", 1), x -> x.function(3, type));
    }

    private static void paragraphTypesSymbols() {
        isType("ANY", 1, "*");
        isType("INT", 2, "#");
        isType("FROM INT TO ANY", 3 + 4 * 2 + 16 * 1, "<#*>");
        isType("FROM ANY TO INT", 3 + 4 * 1 + 16 * 2, "<*#>");
        isType("FROM a function", 3 + 4 * 3 + 16 * 2 + 64 * 1 + 256 * 2, "<<#*>#>");
        isType("TO a function", 3 + 4 * 2 + 16 * 3 + 64 * 1 + 256 * 2, "<#<*#>>");
    }

    private static void paragraphTypesWithoutSymbols() {
        isNoType("no symbol", 0);
        isNoType("no first symbol", 4);
        isNoType("no first symbol, then FROM INT TO INT", Keys.type("<##>") << 2);
        isNoType("FROM nothing", 3);
        isNoType("FROM nothing TO INT", 3 + 16 * 2);
        isNoType("FROM INT TO nothing", 3 + 4 * 2);
        isNoType("FROM INT TO nothing, then INT", 3 + 4 * 2 + 64 * 2);
        isNoType("FROM INT TO FROM INT TO nothing", 3 + 4 * 2 + 16 * 3 + 64 * 2);
        isNoType("FROM FROM INT TO INT TO nothing", 3 + 4 * 3 + 16 * 2 + 64 * 2);
        isNoType("27 FROMs", (1L << 54) - 1);
        isNoType("26 symbols of 27", Keys.type(right(27)) & (1L << 52) - 1);
        isNoType("32 FROMs", -1L);
        isNoType("the least long", Long.MIN_VALUE);
        isNoType("the greatest long", Long.MAX_VALUE);
    }

    private static void paragraphTypesAtMost27Symbols() {
        for (int symbols = 1; symbols <= 27; symbols += 2) {
            isType(symbols + " to the right", Keys.type(right(symbols)), right(symbols));
            isType(symbols + " to the left", Keys.type(left(symbols)), left(symbols));
            isType(symbols + " evenly", Keys.type(even(symbols)), even(symbols));
        }
        for (int symbols = 29; symbols <= 31; symbols += 2) {
            isNoType(symbols + " to the right", Keys.type(right(symbols)));
            isNoType(symbols + " to the left", Keys.type(left(symbols)));
            isNoType(symbols + " evenly", Keys.type(even(symbols)));
        }
    }

    private static void paragraphTypesOnlyZerosAbove() {
        for (int symbols : new int[] {1, 3, 5, 25, 27}) {
            for (int bit = 2 * symbols; bit < 64; bit++) {
                long more = 1L << bit;
                isNoType(symbols + " symbols and bit " + bit, Keys.type(right(symbols)) | more);
            }
        }
        isNoType("ANY, and all bits above", -3L);
        isNoType("27 symbols, and all bits above", Keys.type(left(27)) | -1L << 54);
        isNoType("ANY ANY", 1 + 4);
        isNoType("INT INT", 2 + 4 * 2);
        isNoType("FROM INT TO INT, INT", Keys.type("<##>") | 2 << 6);
    }

    /** All types of so many symbols, an odd number. */
    private static Set<String> types(int symbols) {
        Set<String> all = new TreeSet<>();
        if (symbols == 1) {
            all.add("*");
            all.add("#");
        }
        for (int first = 1; first < symbols - 1; first += 2) {
            for (String taken : types(first)) {
                types(symbols - 1 - first).forEach(given -> all.add("<" + taken + given + ">"));
            }
        }
        return all;
    }

    private static void paragraphTypesAllLongsOfSevenSymbols() {
        Set<Long> all = new TreeSet<>();
        for (int symbols = 1; symbols <= 7; symbols += 2) {
            types(symbols).forEach(type -> all.add(Keys.type(type)));
        }
        Keys.is("there are so many types", all.size(), 2 + 4 + 2 * 8 + 5 * 16);
        for (long type = 0; type < 1 << 14; type++) {
            TermBench x = new TermBench();
            Keys.is("claim " + type, x.claim(type), all.contains(type));
            Keys.is("kept " + type, x.undo(), all.contains(type));
            Keys.is("function " + type, x.function(0, type), all.contains(type));
        }
    }

    private static void fits(String one, String other, boolean due) {
        TermBench x = Keys.at(Keys.made("{{?:" + one + "}:" + other + "}"), 0);
        Keys.is(one + " is expected to be " + other, x.mark(), due ? TermBench.FINE : TermBench.MISFIT);
    }

    private static void bothWays(String one, String other, boolean due) {
        fits(one, other, due);
        fits(other, one, due);
    }

    private static void paragraphTypesConsistentIfOneIsAny() {
        for (String type : new String[] {"*", "#", "<##>", "<<##>#>", right(27), left(27)}) {
            bothWays("*", type, true);
        }
        bothWays("<**>", "<#<##>>", true);
        bothWays("<#*>", "<*#>", true);
    }

    private static void paragraphTypesConsistentIfBothAreInt() {
        bothWays("#", "#", true);
        bothWays("#", "<##>", false);
        bothWays("#", "<**>", false);
        bothWays("#", right(27), false);
        bothWays("#", left(27), false);
    }

    private static void paragraphTypesConsistentFirstAndSecondParts() {
        bothWays("<##>", "<##>", true);
        bothWays("<##>", "<<##>#>", false);
        bothWays("<##>", "<#<##>>", false);
        bothWays("<<##>#>", "<#<##>>", false);
        bothWays("<<##>#>", "<<##><##>>", false);
        bothWays("<*<##>>", "<<##>#>", false);
        bothWays("<<#*>#>", "<<*#>#>", true);
    }

    private static void paragraphTypesConsistentToTheLastSymbol() {
        String front = "<#".repeat(12);
        String back = ">".repeat(12);
        bothWays(front + "<##>" + back, front + "<##>" + back, true);
        bothWays(front + "<##>" + back, front + "<*#>" + back, true);
        bothWays(front + "<##>" + back, front + "<#*>" + back, true);
        bothWays(front + "<##>" + back, front + "#" + back, false);
        bothWays("<#".repeat(11) + "<#<##>>" + ">".repeat(11), "<#".repeat(11) + "<<##>#>" + ">".repeat(11), false);
        bothWays("<".repeat(13) + "#" + "#>".repeat(13), "<".repeat(13) + "*" + "#>".repeat(13), true);
        bothWays("<".repeat(12) + "<##>" + "#>".repeat(12), "<".repeat(12) + "#" + "#>".repeat(12), false);
        bothWays("<".repeat(12) + "<##>" + "#>".repeat(12), "<".repeat(12) + "*" + "#>".repeat(12), true);
    }

    private static void paragraphTypesConsistentAllPairs() {
        Set<String> all = types(1);
        all.addAll(types(3));
        all.addAll(types(5));
        for (String one : all) {
            all.forEach(other -> fits(one, other, Model.consistent(one, other)));
        }
    }

    // Terms.

    private static void paragraphTermsNumbers() {
        for (int n = -999; n <= 999; n++) {
            TermBench x = new TermBench();
            Keys.is("number " + n, x.number(n), true);
            Keys.is("run " + n, x.run(), TermBench.A_NUMBER);
            Keys.is("result " + n, x.result(), n);
        }
        Shown.refused("too large", () -> Shown.ready("(?+2)", 0), x -> x.number(1000));
        Shown.refused("too small", () -> Shown.ready("(?+2)", 0), x -> x.number(-1000));
    }

    private static void paragraphTermsNames() {
        for (int k = 0; k <= 9; k++) {
            int name = k;
            String letter = Character.toString((char) ('a' + k));
            Shown.done("name " + k, Shown.ready("(?+2)", 0), x -> x.name(name), "(" + letter + "+2)", 1);
            String function = "([" + letter + ":*?]+2)";
            Shown.done("function " + k, Shown.ready("(?+2)", 0), x -> x.function(name, 1), function, 5);
        }
        for (int k : new int[] {-1, 10}) {
            Shown.refused("name " + k, () -> Shown.ready("(?+2)", 0), x -> x.name(k));
            Shown.refused("function " + k, () -> Shown.ready("(?+2)", 0), x -> x.function(k, 1));
        }
    }

    private static void paragraphTermsPartsAreCounted() {
        String[] texts = {"?", "7", "a", "(1+2)", "1(2)", "[a:#1]", "{1:#}"};
        int[] parts = {0, 0, 0, 2, 2, 1, 1};
        for (int kind = 0; kind < texts.length; kind++) {
            String text = texts[kind];
            Keys.is("kind of " + text, Keys.made(text).kind(), kind);
            for (int i = 0; i < parts[kind]; i++) {
                Keys.is("part " + i + " of " + text, Keys.made(text).down(i), true);
            }
            int none = parts[kind];
            Shown.refused("part " + none + " of " + text, () -> Shown.ready(text), x -> x.down(none));
            Shown.refused("part -1 of " + text, () -> Shown.ready(text), x -> x.down(-1));
        }
        Keys.is("left", Keys.at(Keys.made("(7+8)"), 0).column(), 1);
        Keys.is("right", Keys.at(Keys.made("(7+8)"), 1).column(), 3);
        Keys.is("called", Keys.at(Keys.made("7(8)"), 0).kind(), TermBench.NUMBER);
        Keys.is("argument", Keys.at(Keys.made("7(8)"), 1).column(), 2);
    }

    private static void paragraphTermsAtFirst() {
        TermBench x = new TermBench();
        Keys.is("a HOLE", x.kind(), TermBench.HOLE);
        Keys.is("one term", x.terms(), 1);
        Keys.is("on the program", x.up(), false);
    }

    private static Map<String, Predicate<TermBench>> joins() {
        Map<String, Predicate<TermBench>> edits = new LinkedHashMap<>();
        edits.put("sum(false)", x -> x.sum(false));
        edits.put("sum(true)", x -> x.sum(true));
        edits.put("call(false)", x -> x.call(false));
        edits.put("call(true)", x -> x.call(true));
        return edits;
    }

    private static Map<String, Predicate<TermBench>> wraps() {
        Map<String, Predicate<TermBench>> edits = new LinkedHashMap<>();
        edits.put("function", x -> x.function(4, TermBench.INT));
        edits.put("claim", x -> x.claim(TermBench.INT));
        return edits;
    }

    private static Map<String, Predicate<TermBench>> joinsAndWraps() {
        Map<String, Predicate<TermBench>> edits = joins();
        edits.putAll(wraps());
        return edits;
    }

    private static void paragraphTermsAtMost40BySumAndCall() {
        joins().forEach((name, edit) -> {
            for (int[] path : new int[][] {{}, {0, 0}, {0, 1, 0}}) {
                TermBench x = Shown.ready(Keys.wide(38, "?"), path);
                Keys.is(name + " to 40", edit.test(x), true);
                Keys.is(name + " has 40", x.terms(), 40);
                Shown.refused(name + " to 41", () -> Shown.ready(Keys.wide(39, "?"), path), edit);
                Shown.refused(name + " to 42", () -> Shown.ready(Keys.wide(40, "?"), path), edit);
            }
        });
    }

    private static void paragraphTermsAtMost40ByFunctionAndClaim() {
        wraps().forEach((name, edit) -> {
            for (int[] path : new int[][] {{}, {0, 0}, {0, 1, 0}}) {
                TermBench x = Shown.ready(Keys.wide(39, "?"), path);
                Keys.is(name + " to 40", edit.test(x), true);
                Keys.is(name + " has 40", x.terms(), 40);
                Shown.refused(name + " to 41", () -> Shown.ready(Keys.wide(40, "?"), path), edit);
            }
        });
    }

    private static void paragraphTermsAt40OtherEditsGoOn() {
        TermBench z = Shown.ready(Keys.wide(40, "?"));
        Keys.is("number", z.hole() && z.number(1), true);
        Keys.is("name", z.hole() && z.name(1), true);
        Keys.is("40 still", z.terms(), 40);
        TermBench x = Shown.ready(Keys.wide(40, "?"), 0, 0);
        Keys.is("remove", x.remove(), true);
        Keys.is("less than 40", x.terms() < 39, true);
        Keys.is("room again", x.sum(true), true);
        TermBench y = Shown.ready(Keys.wide(40, "?"), 0);
        Keys.is("lift", y.lift(), true);
        Keys.is("39", y.terms(), 39);
        Keys.is("room for one", y.sum(true), false);
        Keys.is("the one", y.claim(TermBench.ANY), true);
        Keys.is("room for none", y.claim(TermBench.ANY), false);
        Keys.is("undo", y.undo(), true);
        Keys.is("redo", y.redo(), true);
        Keys.is("40 again", y.terms(), 40);
    }

    /** Terms of one kind, so many inside one another. */
    private static String deep(int kind, int levels) {
        int around = levels - 1;
        switch (kind) {
            case TermBench.SUM:
                return "(".repeat(around) + "?" + "+1)".repeat(around);
            case TermBench.CALL:
                return "?" + "(1)".repeat(around);
            case TermBench.FUNCTION:
                return "[a:#".repeat(around) + "?" + "]".repeat(around);
            default:
                return "{".repeat(around) + "?" + ":#}".repeat(around);
        }
    }

    /** How many steps lead down from the program, to first parts but for one step, which may be to another. */
    private static int stepsDown(TermBench x, int step, int part) {
        Keys.at(x);
        int steps = 0;
        while (steps < 50 && x.down(steps == step ? part : 0)) {
            steps++;
        }
        return steps;
    }

    private static void paragraphTermsAtMost12InsideOneAnother() {
        joinsAndWraps().forEach((name, edit) -> {
            for (int kind = TermBench.SUM; kind <= TermBench.CLAIM; kind++) {
                for (int place : new int[] {0, 5, 10}) {
                    String what = name + " at " + place + " of " + deep(kind, 11);
                    TermBench x = Shown.ready(deep(kind, 11), new int[place]);
                    Keys.is(what, edit.test(x), true);
                    Keys.is(what + " has 12", stepsDown(x, place, name.contains("true") ? 1 : 0), 11);
                    int below = kind;
                    Shown.refused(what + " and one more", () -> Shown.ready(deep(below, 12), new int[place]), edit);
                }
                int below = kind;
                Shown.refused(name + " on the twelfth", () -> Shown.ready(deep(below, 12), new int[11]), edit);
            }
        });
    }

    private static void paragraphTermsAtMost12BesideDeepOnes() {
        joinsAndWraps().forEach((name, edit) -> {
            String text = "(" + deep(TermBench.CLAIM, 11) + "+" + deep(TermBench.CLAIM, 10) + ")";
            TermBench x = Shown.ready(text, 1);
            Keys.is(name + " beside 12", edit.test(x), true);
            Shown.refused(name + " in 12", () -> Shown.ready(text, 0), edit);
            Shown.refused(name + " around 12", () -> Shown.ready(text), edit);
            String right = "(" + deep(TermBench.CLAIM, 10) + "+" + deep(TermBench.CLAIM, 11) + ")";
            Keys.is(name + " in front of 12", edit.test(Shown.ready(right, 0)), true);
            Shown.refused(name + " in 12 on the right", () -> Shown.ready(right, 1), edit);
            Shown.refused(name + " around 12 on the right", () -> Shown.ready(right), edit);
        });
    }

    private static void paragraphTermsAt12OtherEditsGoOn() {
        TermBench x = Shown.ready(deep(TermBench.CLAIM, 12), new int[11]);
        Keys.is("number", x.number(1), true);
        Keys.is("remove", x.remove(), true);
        Keys.is("lift", x.lift(), true);
        Keys.is("room again", x.sum(false), true);
        Keys.is("room no more", x.sum(false), false);
        Keys.is("12", stepsDown(x, 0, 0), 11);
    }

    // Typing.

    private static void typed(String text, String got, String expected, int mark, int... path) {
        TermBench x = Keys.at(Keys.made(text), path);
        Keys.is("got in " + text, x.got(), Keys.type(got));
        Keys.is("expected in " + text, x.expected(), Keys.type(expected));
        Keys.is("mark in " + text, x.mark(), mark);
    }

    private static void paragraphTypingTheProgramIsExpectedToBeNothing() {
        typed("?", "*", "", TermBench.FINE);
        typed("5", "#", "", TermBench.FINE);
        typed("a", "*", "", TermBench.FREE);
        typed("(1+2)", "#", "", TermBench.FINE);
        typed("?(1)", "*", "", TermBench.FINE);
        typed("[a:#a]", "<##>", "", TermBench.FINE);
        typed("{1:<##>}", "<##>", "", TermBench.FINE);
    }

    private static void paragraphTypingWhatIsAroundTakesAnyForAMark() {
        typed("[a:#b]", "<#*>", "", TermBench.FINE);
        typed("[a:#1(2)]", "<#*>", "", TermBench.FINE);
        typed("{[a:#[b:#1]]:<#<<##>#>>}", "<#*>", "<#<<##>#>>", TermBench.FINE, 0);
        typed("{[a:#(1+2)]:<#<##>>}", "<#*>", "<#<##>>", TermBench.FINE, 0);
        typed("{[a:#(1+2)]:<##>}", "<##>", "<##>", TermBench.FINE, 0);
        typed("1(2)(3)", "*", "", TermBench.FINE);
        typed("1(2)(3)", "#", "*", TermBench.FINE, 1);
        typed("b(3)", "*", "", TermBench.FINE);
        typed("(1+[a:#1])", "#", "", TermBench.FINE);
        typed("{{1:<##>}:#}", "<##>", "#", TermBench.MISFIT, 0);
    }

    private static void paragraphTypingHoleAndNumber() {
        typed("(?+1)", "*", "#", TermBench.FINE, 0);
        typed("{?:<##>}", "*", "<##>", TermBench.FINE, 0);
        typed("{1:#}", "#", "#", TermBench.FINE, 0);
        typed("{1:*}", "#", "*", TermBench.FINE, 0);
        typed("{1:<**>}", "#", "<**>", TermBench.MISFIT, 0);
    }

    private static void paragraphTypingNameOfTheInnermostFunction() {
        typed("[a:#a]", "#", "", TermBench.FINE, 0);
        typed("[a:#[a:<##>a]]", "<##>", "", TermBench.FINE, 0, 0);
        typed("[a:#[b:<##>a]]", "#", "", TermBench.FINE, 0, 0);
        typed("[a:#([a:<##>a]+a)]", "#", "#", TermBench.FINE, 0, 1);
        typed("[a:#[a:<##>1](a)]", "#", "<##>", TermBench.MISFIT, 0, 1);
        typed("[a:<##>{a:#}]", "<##>", "#", TermBench.MISFIT, 0, 0);
        typed("[j:#[i:<##>j]]", "#", "", TermBench.FINE, 0, 0);
        String eleven = "[a:#[b:*[c:*[d:*[e:*[f:*[g:*[h:*[i:*[j:*[b:*";
        typed(eleven + "a" + "]".repeat(11), "#", "", TermBench.FINE, 0, 0, 0, 0, 0, 0, 0, 0, 0, 0, 0);
    }

    private static void paragraphTypingNameWithoutSuchAFunction() {
        typed("a", "*", "", TermBench.FREE);
        typed("[b:#a]", "*", "", TermBench.FREE, 0);
        typed("[a:#1](a)", "*", "#", TermBench.FREE, 1);
        typed("(a+[a:#a])", "*", "#", TermBench.FREE, 0);
        typed("([a:#a]+a)", "*", "#", TermBench.FREE, 1);
        typed("([a:#1]+(2+a))", "*", "#", TermBench.FREE, 1, 1);
        typed("([a:#[a:#a]]+((1+2)+(3+a)))", "*", "#", TermBench.FREE, 1, 1, 1);
        typed("{a:<##>}", "*", "<##>", TermBench.FREE, 0);
        typed("[i:#j]", "*", "", TermBench.FREE, 0);
    }

    private static void paragraphTypingSum() {
        typed("(1+?)", "#", "", TermBench.FINE);
        typed("([a:#a]+1)", "<##>", "#", TermBench.MISFIT, 0);
        typed("(1+[a:#a])", "<##>", "#", TermBench.MISFIT, 1);
        typed("([a:#a]+[a:#a])", "#", "", TermBench.FINE);
        typed("{(1+2):<##>}", "#", "<##>", TermBench.MISFIT, 0);
    }

    private static void paragraphTypingCallOfAFromTo() {
        typed("{?:<##>}(1)", "#", "", TermBench.FINE);
        typed("{?:<<##>*>}(1)", "#", "<##>", TermBench.MISFIT, 1);
        typed("{?:<#<*#>>}(1)", "<*#>", "", TermBench.FINE);
        typed("{?:<#<*#>>}(1)", "<#<*#>>", "", TermBench.FINE, 0);
        typed("{?:" + right(27) + "}(?)", right(25), "", TermBench.FINE);
        typed("{?:" + left(27) + "}(?)", "*", left(25), TermBench.FINE, 1);
        typed("({?:<#<##>>}(1)+2)", "<##>", "#", TermBench.MISFIT, 0);
    }

    private static void paragraphTypingCallOfAny() {
        typed("?([a:#a])", "*", "", TermBench.FINE);
        typed("?([a:#a])", "<##>", "*", TermBench.FINE, 1);
        typed("?(1)", "*", "", TermBench.FINE, 0);
        typed("{?:<##>}(?(1))", "*", "#", TermBench.FINE, 1);
    }

    private static void paragraphTypingCallOfInt() {
        typed("1([a:#a])", "*", "", TermBench.NO_FUNCTION);
        typed("1([a:#a])", "<##>", "*", TermBench.FINE, 1);
        typed("1(2)", "#", "", TermBench.FINE, 0);
        typed("(1+2)(3)", "*", "", TermBench.NO_FUNCTION);
        typed("(1(2)+3)", "*", "#", TermBench.NO_FUNCTION, 0);
        typed("{?:<##>}(1)(2)", "*", "", TermBench.NO_FUNCTION);
    }

    private static void paragraphTypingFunctionExpectedToBeAFromTo() {
        typed("{[a:#?]:<#<##>>}", "*", "<##>", TermBench.FINE, 0, 0);
        typed("{[a:#1]:<##>}", "<##>", "<##>", TermBench.FINE, 0);
        typed("{[a:#1]:<*#>}", "<##>", "<*#>", TermBench.FINE, 0);
        typed("{[a:*1]:<##>}", "<*#>", "<##>", TermBench.FINE, 0);
        typed("{[a:#1]:<<##>#>}", "<##>", "<<##>#>", TermBench.WRONG_NAME, 0);
        typed("{[a:<##>1]:<##>}", "<<##>#>", "<##>", TermBench.WRONG_NAME, 0);
        typed("{[a:#1]:<<##>#>}", "#", "#", TermBench.FINE, 0, 0);
        typed("{[a:#1]:<<##><##>>}", "#", "<##>", TermBench.MISFIT, 0, 0);
        typed("{[a:#1]:<<##><##>>}", "<#*>", "<<##><##>>", TermBench.WRONG_NAME, 0);
        typed("{?:<<##>#>}([a:<##>1])", "<<##>#>", "<##>", TermBench.WRONG_NAME, 1);
    }

    private static void paragraphTypingFunctionExpectedToBeAny() {
        typed("{[a:#?]:*}", "*", "*", TermBench.FINE, 0, 0);
        typed("?([a:#[b:#?]])", "*", "*", TermBench.FINE, 1, 0, 0);
        typed("{[a:#?]:<#*>}", "*", "*", TermBench.FINE, 0, 0);
    }

    private static void paragraphTypingFunctionExpectedToBeElse() {
        typed("[a:#?]", "*", "", TermBench.FINE, 0);
        typed("[a:#[b:#?]]", "*", "", TermBench.FINE, 0, 0);
        typed("{[a:#?]:#}", "*", "", TermBench.FINE, 0, 0);
        typed("([a:#[b:#b]]+1)", "#", "", TermBench.FINE, 0, 0, 0);
        typed("{[a:#1]:#}", "<##>", "#", TermBench.MISFIT, 0);
        typed("[a:#?](1)", "*", "", TermBench.FINE, 0, 0);
    }

    private static void paragraphTypingAnyBeyond27Symbols() {
        typed("[a:" + right(25) + "?]", "<" + right(25) + "*>", "", TermBench.FINE);
        typed("[a:" + right(27) + "?]", "*", "", TermBench.FINE);
        typed("[a:" + left(25) + "b]", "<" + left(25) + "*>", "", TermBench.FINE);
        typed("[a:" + left(27) + "b]", "*", "", TermBench.FINE);
        typed("[a:#{?:" + left(25) + "}]", "<#" + left(25) + ">", "", TermBench.FINE);
        typed("[a:#{?:" + left(27) + "}]", "*", "", TermBench.FINE);
        typed("[a:" + left(13) + "{?:" + right(13) + "}]", "<" + left(13) + right(13) + ">", "", TermBench.FINE);
        typed("[a:" + left(15) + "{?:" + right(13) + "}]", "*", "", TermBench.FINE);
        typed("[a:" + left(13) + "{?:" + right(15) + "}]", "*", "", TermBench.FINE);
        typed("[a:" + right(13) + "a]", "<" + right(13) + right(13) + ">", "", TermBench.FINE);
        typed("[a:" + right(15) + "a]", "*", "", TermBench.FINE);
        typed("[b:#[a:" + right(23) + "?]]", "<#<" + right(23) + "*>>", "", TermBench.FINE);
        typed("[b:#[a:" + right(25) + "?]]", "*", "", TermBench.FINE);
        typed("[b:#[a:" + right(27) + "?]]", "<#*>", "", TermBench.FINE);
    }

    private static void paragraphTypingAnyBeyond27SymbolsForWhatIsAround() {
        typed("{[a:" + right(25) + "?]:#}", "<" + right(25) + "*>", "#", TermBench.MISFIT, 0);
        typed("{[a:" + right(27) + "?]:#}", "*", "#", TermBench.FINE, 0);
        typed("{[a:" + right(27) + "?]:<#*>}", "*", "<#*>", TermBench.WRONG_NAME, 0);
        typed("[a:" + right(25) + "?](?)", "*", right(25), TermBench.FINE, 1);
        typed("[a:" + right(27) + "?](?)", "*", "*", TermBench.FINE, 1);
        typed("[a:" + right(27) + "5](?)", "*", "", TermBench.FINE);
        ran("[a:" + right(27) + "5](?)", TermBench.A_NUMBER, 5, 4);
    }

    private static void paragraphTypingClaim() {
        typed("{?:<*#>}", "<*#>", "", TermBench.FINE);
        typed("{?:<*#>}", "*", "<*#>", TermBench.FINE, 0);
        typed("{1:" + right(27) + "}", right(27), "", TermBench.FINE);
        typed("{1:" + right(27) + "}", "#", right(27), TermBench.MISFIT, 0);
        typed("({1:<##>}+1)", "<##>", "#", TermBench.MISFIT, 0);
    }

    private static void paragraphTypingAMarkOrNone() {
        typed("{[a:#[b:<##>1]]:<<##><##>>}", "<#*>", "<<##><##>>", TermBench.WRONG_NAME, 0);
        typed("{[a:#[b:<##>1]]:<<##><##>>}", "<<##>#>", "<##>", TermBench.WRONG_NAME, 0, 0);
        typed("{1(2):<##>}", "*", "<##>", TermBench.NO_FUNCTION, 0);
        typed("{b:#}", "*", "#", TermBench.FREE, 0);
        typed("{[a:#a]:#}", "<##>", "#", TermBench.MISFIT, 0);
        Keys.is("marks of a WRONG_NAME", Keys.made("{[a:#1]:<<##>#>}").marks(), 1);
        Keys.is("marks of no one", Keys.made("{[a:#1]:<##>}").marks(), 0);
    }

    // The text.

    private static void paragraphTextNoNeedlessZero() {
        for (int n = -999; n <= 999; n++) {
            TermBench x = new TermBench();
            x.number(n);
            Keys.is("text of " + n, Keys.text(x), Integer.toString(n));
        }
    }

    private static void paragraphTextOfEachKind() {
        String[] due = {"?", "-7", "j", "(-7+?)", "(?+-7)", "-7(?)", "?(-7)", "[j:<#*>-7]", "{-7:<*#>}"};
        String[] texts = new String[due.length];
        TermBench x = new TermBench();
        texts[0] = Keys.text(x);
        x.name(9);
        texts[2] = Keys.text(x);
        x.remove();
        x.number(-7);
        texts[1] = Keys.text(x);
        x.sum(false);
        texts[3] = Keys.text(x);
        x.undo();
        x.sum(true);
        texts[4] = Keys.text(x);
        x.undo();
        x.call(false);
        texts[5] = Keys.text(x);
        x.undo();
        x.call(true);
        texts[6] = Keys.text(x);
        x.undo();
        x.function(9, 3 + 4 * 2 + 16 * 1);
        texts[7] = Keys.text(x);
        x.undo();
        x.claim(3 + 4 * 1 + 16 * 2);
        texts[8] = Keys.text(x);
        for (int i = 0; i < due.length; i++) {
            Keys.is("text " + i, texts[i], due[i]);
        }
    }

    private static void paragraphTextColumnsFrom0() {
        TermBench x = Keys.made("(12+a)");
        Keys.is("the program's", x.column(), 0);
        Keys.is("left", Keys.at(x, 0).column(), 1);
        Keys.is("right", Keys.at(x, 1).column(), 4);
        Keys.is("click(0)", x.click(0) ? x.kind() : -1, TermBench.SUM);
        Keys.is("click(1)", x.click(1) ? x.kind() : -1, TermBench.NUMBER);
        Keys.is("click(5)", x.click(5) ? x.kind() : -1, TermBench.SUM);
        Shown.refused("click(-1)", () -> Shown.ready("(12+a)", 1), y -> y.click(-1));
        Shown.refused("click(6)", () -> Shown.ready("(12+a)", 1), y -> y.click(6));
    }

    // Running.

    private static void ran(String text, int outcome, int result, int units) {
        TermBench x = Keys.made(text);
        Keys.is("run of " + text, x.run(), outcome);
        Keys.is("result of " + text, x.result(), result);
        Keys.is("units of " + text, x.units(), units);
    }

    private static void paragraphRunningAHoleOrAMarkIsDark() {
        ran("?", TermBench.DARK, 0, 1);
        ran("b", TermBench.DARK, 0, 1);
        ran("1((2+3))", TermBench.DARK, 0, 1);
        ran("{[a:#1]:<<##>#>}", TermBench.DARK, 0, 2);
        ran("{[a:#1]:<##>}", TermBench.A_FUNCTION, 0, 2);
        ran("{1:<##>}", TermBench.DARK, 0, 2);
        ran("{1:#}", TermBench.A_NUMBER, 1, 2);
        ran("[a:#b](1)", TermBench.DARK, 0, 4);
        ran("[a:#7](b)", TermBench.A_NUMBER, 7, 4);
    }

    private static void paragraphRunningNameOfTheInnermostFunction() {
        ran("[a:*[a:*a](2)](1)", TermBench.A_NUMBER, 2, 7);
        ran("[a:*[b:*a](2)](1)", TermBench.A_NUMBER, 1, 7);
        ran("[a:*([a:*a](2)+a)](1)", TermBench.A_NUMBER, 3, 9);
        ran("[a:*a](?)", TermBench.DARK, 0, 4);
        ran("[a:*a]([b:*b])", TermBench.A_FUNCTION, 0, 4);
        ran("[a:*[b:*[a:*b(0)](5)]([c:*a])](1)", TermBench.A_NUMBER, 1, 13);
    }

    private static void paragraphRunningSumOfTwoNumbersOnly() {
        ran("(999+-999)", TermBench.A_NUMBER, 0, 3);
        ran("(?+1)", TermBench.DARK, 0, 3);
        ran("(1+?)", TermBench.DARK, 0, 3);
        ran("({[a:*a]:*}+1)", TermBench.DARK, 0, 4);
        ran("(1+{[a:*a]:*})", TermBench.DARK, 0, 4);
        ran("(?+(1+2))", TermBench.DARK, 0, 5);
    }

    /** Comes to a number times 2 to the power of 27. */
    private static String doubled(int n) {
        return THREE_TIMES + "(" + THREE_TIMES + ")([a:*(a+a)])(" + n + ")";
    }

    private static void paragraphRunningTheSumWraps() {
        ran(doubled(8), TermBench.A_NUMBER, 1 << 30, 190);
        ran(doubled(-8), TermBench.A_NUMBER, -(1 << 30), 190);
        ran("[a:*(a+(a+-1))](" + doubled(8) + ")", TermBench.A_NUMBER, Integer.MAX_VALUE, 197);
        ran("([a:*(a+(a+-1))](" + doubled(8) + ")+0)", TermBench.A_NUMBER, Integer.MAX_VALUE, 199);
        ran("([a:*(a+(a+-1))](" + doubled(8) + ")+1)", TermBench.A_NUMBER, Integer.MIN_VALUE, 199);
        ran("[a:*(a+a)](" + doubled(8) + ")", TermBench.A_NUMBER, Integer.MIN_VALUE, 195);
        ran("[a:*(a+a)](" + doubled(-8) + ")", TermBench.A_NUMBER, Integer.MIN_VALUE, 195);
        ran("([a:*(a+a)](" + doubled(-8) + ")+-1)", TermBench.A_NUMBER, Integer.MAX_VALUE, 197);
        ran("[a:*(a+a)](" + doubled(16) + ")", TermBench.A_NUMBER, 0, 195);
    }

    private static void paragraphRunningCallOfNoFunctionIsDark() {
        ran("?((1+2))", TermBench.DARK, 0, 5);
        ran("{1:*}((1+2))", TermBench.DARK, 0, 6);
        ran("[a:*a((1+2))](1)", TermBench.DARK, 0, 8);
        ran("{[a:*5]:*}((1+2))", TermBench.A_NUMBER, 5, 7);
    }

    /** Takes 398 units and so many more, and comes to 7. */
    private static String unitsProgram(int more) {
        return THREE_TIMES + "([a:*{{[b:*{a:*}(a(a(b)))]:*}:*}])([a:*{((a+0)+(0+(0+0))):*}])("
            + "{".repeat(more) + "7" + ":*}".repeat(more) + ")";
    }

    private static void paragraphRunningSpentByA401stUnit() {
        ran(unitsProgram(1), TermBench.A_NUMBER, 7, 399);
        ran(unitsProgram(2), TermBench.A_NUMBER, 7, 400);
        ran(unitsProgram(3), TermBench.SPENT, 0, 400);
        ran(unitsProgram(4), TermBench.SPENT, 0, 400);
    }

    /** Of all programs that come to an end this is one with the most calls: 133 of them, and so many units. */
    private static void paragraphRunningAsManyCallsAs400UnitsAllow() {
        String four = "[a:*[b:*a(a(a(a(b))))]]";
        String calls = "[c:*" + four + "(" + THREE_TIMES + ")(c)(c(c(c(c(c(7))))))]([a:*a])";
        ran(calls, TermBench.A_NUMBER, 7, 400);
        TermBench x = Keys.at(Keys.made(calls), 0, 0, 1, 1, 1, 1, 1, 1);
        Keys.is("on the 7", x.kind(), TermBench.NUMBER);
        x.claim(TermBench.ANY);
        Keys.is("one unit more", x.run(), TermBench.SPENT);
    }

    private static void paragraphRunningSpentByA401stUnitOfAnyKind() {
        ran("(" + unitsProgram(0) + "+8)", TermBench.A_NUMBER, 15, 400);
        ran("(" + unitsProgram(1) + "+8)", TermBench.SPENT, 0, 400);
        for (String dark : new String[] {"?", "b", "[b:*b]"}) {
            ran("(" + unitsProgram(0) + "+" + dark + ")", TermBench.DARK, 0, 400);
            ran("(" + unitsProgram(1) + "+" + dark + ")", TermBench.SPENT, 0, 400);
        }
    }

    /** A body is run inside of the running of 55 others; so many CLAIMs are around the term that it runs last. */
    private static String insideProgram(int claims, String last) {
        return THREE_TIMES + "(" + THREE_TIMES + ")([a:*[b:*{a(b):*}]])([a:*" + "{".repeat(claims) + last
            + ":*}".repeat(claims) + "])(7)";
    }

    private static void paragraphRunningSpentInsideOf60Others() {
        ran(insideProgram(3, "a"), TermBench.A_NUMBER, 7, 250);
        ran(insideProgram(4, "a"), TermBench.A_NUMBER, 7, 251);
        ran(insideProgram(5, "a"), TermBench.SPENT, 0, 251);
        ran(insideProgram(4, "?"), TermBench.DARK, 0, 251);
        ran(insideProgram(5, "?"), TermBench.SPENT, 0, 251);
        ran(insideProgram(4, "c"), TermBench.DARK, 0, 251);
        ran(insideProgram(5, "c"), TermBench.SPENT, 0, 251);
        ran(insideProgram(4, "[b:*b]"), TermBench.A_FUNCTION, 0, 251);
        ran(insideProgram(5, "[b:*b]"), TermBench.SPENT, 0, 251);
        ran(insideProgram(4, "8"), TermBench.A_NUMBER, 8, 251);
        ran(insideProgram(5, "8"), TermBench.SPENT, 0, 251);
    }

    private static void paragraphRunningSpentInPartsAndBodies() {
        ran(insideProgram(3, "(a+a)"), TermBench.A_NUMBER, 14, 252);
        ran(insideProgram(4, "(a+a)"), TermBench.SPENT, 0, 251);
        ran(insideProgram(3, "?(a)"), TermBench.DARK, 0, 252);
        ran(insideProgram(4, "?(a)"), TermBench.SPENT, 0, 251);
        ran(insideProgram(3, "[b:*b](a)"), TermBench.A_NUMBER, 7, 253);
        ran(insideProgram(3, "[b:*{b:*}](a)"), TermBench.SPENT, 0, 253);
        ran(insideProgram(3, "({a:*}+1)"), TermBench.SPENT, 0, 251);
        ran(insideProgram(3, "(1+{a:*})"), TermBench.SPENT, 0, 252);
    }

    private static void paragraphRunningSpentEndsAtOnce() {
        String endless = "[a:*a(a)]([a:*a(a)])";
        ran(endless, TermBench.SPENT, 0, 178);
        ran("(" + endless + "+(1+2))", TermBench.SPENT, 0, 176);
        ran("((1+2)+" + endless + ")", TermBench.SPENT, 0, 179);
        ran(endless + "((1+2))", TermBench.SPENT, 0, 176);
        ran("[b:*1](" + endless + ")", TermBench.SPENT, 0, 177);
        ran("{" + endless + ":#}", TermBench.SPENT, 0, 176);
        TermBench x = Keys.made(endless);
        x.run();
        x.remove();
        x.number(3);
        Keys.is("a run after it", x.run(), TermBench.A_NUMBER);
        Keys.is("its units", x.units(), 1);
    }

    // Edits.

    private static void paragraphEditsRefusedChangesNothing() {
        Shown.refused("number on no HOLE", () -> Shown.ready("(1+?)", 0), x -> x.number(5));
        Shown.refused("name on no HOLE", () -> Shown.ready("(1+?)", 0), x -> x.name(5));
        Shown.refused("remove on a HOLE", () -> Shown.ready("(1+?)", 1), x -> x.remove());
        Shown.refused("lift of the program", () -> Shown.ready("(1+?)"), x -> x.lift());
        Shown.refused("function of no name", () -> Shown.ready("(1+?)", 1), x -> x.function(10, 1));
        Shown.refused("function of no type", () -> Shown.ready("(1+?)", 1), x -> x.function(0, 0));
        Shown.refused("claim of no type", () -> Shown.ready("(1+?)", 1), x -> x.claim(0));
        Shown.refused("number too large", () -> Shown.ready("(1+?)", 1), x -> x.number(1000));
        Shown.refused("name too large", () -> Shown.ready("(1+?)", 1), x -> x.name(10));
    }

    /** Edits so often: 0 is put in and taken out, then 1 .. */
    private static TermBench edited(int times) {
        TermBench x = new TermBench();
        for (int i = 0; i < times; i++) {
            Keys.is("edit " + i, i % 2 == 0 ? x.number(i / 2) : x.remove(), true);
        }
        return x;
    }

    private static int steps(TermBench x, Predicate<TermBench> step) {
        int count = 0;
        while (count < 40 && step.test(x)) {
            count++;
        }
        return count;
    }

    private static void paragraphEditsTheLatest16AreKept() {
        for (int times = 0; times <= 16; times++) {
            TermBench x = edited(times);
            Keys.is("back after " + times, steps(x, TermBench::undo), times);
            Keys.is("the first program again after " + times, Keys.text(x), "?");
        }
        String[] oldest = {"0", "?", "1", "?", "2"};
        for (int more = 1; more <= 5; more++) {
            TermBench x = edited(16 + more);
            Keys.is("back after 16 and " + more, steps(x, TermBench::undo), 16);
            Keys.is("the oldest kept after 16 and " + more, Keys.text(x), oldest[more - 1]);
            int edits = 16 + more;
            Shown.refused("a step further back", () -> {
                TermBench y = edited(edits);
                steps(y, TermBench::undo);
                return y;
            }, TermBench::undo);
        }
    }

    private static void paragraphEditsTheLatest16AreKeptOverUndoAndRedo() {
        TermBench x = edited(20);
        for (int i = 0; i < 16; i++) {
            x.undo();
        }
        Keys.is("all forth", steps(x, TermBench::redo), 16);
        Keys.is("all back", steps(x, TermBench::undo), 16);
        Keys.is("forth again", x.redo() && x.redo() && x.redo(), true);
        Keys.is("an edit after three", x.claim(TermBench.ANY), true);
        Keys.is("nothing is put by", x.redo(), false);
        Keys.is("three and one are kept", steps(x, TermBench::undo), 4);
        Keys.is("four are put by", steps(x, TermBench::redo), 4);
    }

    private static void paragraphEditsTheCursorIsKept() {
        TermBench x = Keys.at(Keys.made("(1+(2+3))"), 1, 0);
        x.remove();
        Keys.at(x, 1, 1);
        Shown.done("undo", x, TermBench::undo, "(1+(2+3))", 4);
        x.click(0);
        Shown.done("redo", x, TermBench::redo, "(1+(?+3))", 6);
        Shown.done("undo of that", x, TermBench::undo, "(1+(2+3))", 0);
        Shown.done("redo of that", x, TermBench::redo, "(1+(?+3))", 6);
    }

    private static void paragraphEditsWhatIsShownAfterUndoRedoAndAnEdit() {
        TermBench x = Keys.made("(1+2)");
        Shown.done("an edit", x, y -> y.function(0, TermBench.ANY), "[a:*(1+2)]", 4);
        Shown.done("undo", x, TermBench::undo, "(1+2)", 0);
        Keys.is("redo", x.redo(), true);
        Shown.done("another edit", x, y -> y.claim(TermBench.INT), "[a:*{(1+2):#}]", 5);
        Shown.done("undo of that", x, TermBench::undo, "[a:*(1+2)]", 4);
        Keys.is("undo of the first", x.undo(), true);
        Shown.done("redo of the first", x, TermBench::redo, "[a:*(1+2)]", 4);
        Keys.is("undo again", x.undo(), true);
        Shown.done("an edit in its place", x, TermBench::remove, "?", 0);
    }

    private static Map<String, Predicate<TermBench>> edits() {
        Map<String, Predicate<TermBench>> edits = joinsAndWraps();
        edits.put("number", x -> x.number(-999));
        edits.put("name", x -> x.name(9));
        edits.put("remove", x -> x.down(0) && x.remove());
        edits.put("lift", x -> x.lift());
        return edits;
    }

    private static TermBench beforeEdit(String name) {
        return name.equals("remove") ? Shown.ready("((1+2)+5)") : Shown.ready("(?+5)", 0);
    }

    private static void paragraphEditsAnEditTakesAwayAllThatIsPutBy() {
        edits().forEach((name, edit) -> {
            Keys.is(name + ", two are put by", steps(beforeEdit(name), TermBench::redo), 2);
            TermBench x = beforeEdit(name);
            Keys.is(name, edit.test(x), true);
            Keys.is(name + ", none is put by", x.redo(), false);
            Keys.is(name + ", undone", x.undo(), true);
            String before = name.equals("remove") ? "((1+2)+5)" : "(?+5)";
            Keys.is(name + ", the program before it", Keys.text(x), before);
            Keys.is(name + ", it alone is put by", steps(x, TermBench::redo), 1);
        });
    }

    private static void paragraphEditsOtherCallsAreNoEdits() {
        TermBench x = Shown.ready("(?+5)", 0);
        x.up();
        x.down(1);
        x.hole();
        x.click(3);
        x.column();
        x.mark();
        x.got();
        x.expected();
        x.marks();
        x.text(0);
        x.run();
        Keys.is("two are still put by", steps(x, TermBench::redo), 2);
        TermBench y = new TermBench();
        y.hole();
        y.click(0);
        y.run();
        y.down(0);
        y.up();
        Keys.is("nothing is kept", y.undo(), false);
    }
}
