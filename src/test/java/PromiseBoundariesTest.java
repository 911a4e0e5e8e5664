import java.util.function.Predicate;
import java.util.function.Supplier;

/** The boundary cases that the promises name: for each the last case on one side and the first on the other. */
public final class PromiseBoundariesTest {
    private static final int[] FAR =
        {Integer.MAX_VALUE, Integer.MIN_VALUE, Integer.MAX_VALUE - 1, 1 << 29, -(1 << 29), 1 << 16};
    private static final long[] NO_TYPES = {0, 3, 4, 5, 6, 7, 8, 9, 10, 11, 15, 3 + 16 * 2, -1, -2, -3, Long.MIN_VALUE,
        Long.MAX_VALUE, 1L << 54, 1L | 1L << 32, 2L | 1L << 63, 27L | 1L << 6};
    /** A program of each kind, in the order of the kinds. */
    private static final String[] KINDS = {"?", "7", "a", "(1+2)", "1(2)", "[a:#1]", "{1:#}"};

    public static void main(String[] args) throws IllegalAccessException {
        Sentences.runAll(PromiseBoundariesTest.class);
    }

    private static void refused(String what, String text, Predicate<TermBench> call, int... path) {
        Shown.refused(what + " in " + text, () -> Shown.ready(text, path), call);
    }

    // Promise 1: A new object.

    private static void promise1NothingIsKept() {
        Shown.refused("undo", TermBench::new, TermBench::undo);
        Shown.refused("redo", TermBench::new, TermBench::redo);
    }

    private static void promise1NothingWasRun() {
        Keys.is("result", new TermBench().result(), 0);
        Keys.is("units", new TermBench().units(), 0);
    }

    private static void promise1TheCursorIsOnAHole() {
        TermBench x = new TermBench();
        Keys.is("kind", x.kind(), TermBench.HOLE);
        Keys.is("column", x.column(), 0);
        Keys.is("mark", x.mark(), TermBench.FINE);
        Keys.is("got", x.got(), TermBench.ANY);
        Keys.is("expected", x.expected(), 0);
        Keys.is("terms", x.terms(), 1);
        Keys.is("marks", x.marks(), 0);
        Keys.is("text", Keys.text(x), "?");
        Shown.refused("up", TermBench::new, TermBench::up);
        Shown.refused("down", TermBench::new, y -> y.down(0));
        Shown.refused("lift", TermBench::new, TermBench::lift);
        Shown.refused("remove", TermBench::new, TermBench::remove);
    }

    private static void promise1ObjectsAreApart() {
        TermBench x = Shown.ready("(1+?)", 1);
        TermBench y = new TermBench();
        x.number(9);
        x.run();
        Keys.is("result of the other", y.result(), 0);
        Keys.is("text of the other", Keys.text(y), "?");
        Keys.is("undo of the other", y.undo(), false);
    }

    // Promise 2: number.

    private static void promise2RefusedWhenNoHole() {
        for (String text : KINDS) {
            if (text.equals("?")) {
                Shown.done("number on a HOLE", Shown.ready(text), x -> x.number(0), "0", 0);
            } else {
                refused("number on no HOLE", text, x -> x.number(0));
                refused("number on no HOLE", text, x -> x.number(7));
            }
        }
        refused("number beside a HOLE", "(?+3)", x -> x.number(3), 1);
        refused("number above a HOLE", "(?+3)", x -> x.number(3));
    }

    private static void promise2RefusedWhenTooSmallOrTooLarge() {
        for (int n : new int[] {-999, -998, -100, -99, -10, -9, -1, 0, 1, 9, 10, 99, 100, 998, 999}) {
            Shown.done("number " + n, Shown.ready("(1+?)", 1), x -> x.number(n), "(1+" + n + ")", 3);
        }
        for (int n : new int[] {-1001, -1000, 1000, 1001, 65536, 65536 + 5, -65536 + 5}) {
            refused("number " + n, "(1+?)", x -> x.number(n), 1);
        }
        for (int n : FAR) {
            refused("number " + n, "(1+?)", x -> x.number(n), 1);
        }
    }

    // Promise 3: name.

    private static void promise3RefusedWhenNoHole() {
        for (String text : KINDS) {
            if (text.equals("?")) {
                Shown.done("name on a HOLE", Shown.ready(text), x -> x.name(9), "j", 0);
            } else {
                refused("name on no HOLE", text, x -> x.name(0));
            }
        }
        refused("name on the same name", "[a:#a]", x -> x.name(0), 0);
    }

    private static void promise3RefusedWhenTooSmallOrTooLarge() {
        Shown.done("the least", Shown.ready("(1+?)", 1), x -> x.name(0), "(1+a)", 3);
        Shown.done("the greatest", Shown.ready("(1+?)", 1), x -> x.name(9), "(1+j)", 3);
        for (int k : new int[] {-2, -1, 10, 11, 256, 65536}) {
            refused("name " + k, "(1+?)", x -> x.name(k), 1);
        }
        for (int k : FAR) {
            refused("name " + k, "(1+?)", x -> x.name(k), 1);
        }
    }

    // Promise 4: sum, and promise 5: call.

    private static void promise4OfTheProgramAndOfEachPart() {
        Shown.done("of a HOLE", Shown.ready("?"), x -> x.sum(false), "(?+?)", 3);
        Shown.done("before a HOLE", Shown.ready("?"), x -> x.sum(true), "(?+?)", 1);
        Shown.done("of a left part", Shown.ready("(1+2)", 0), x -> x.sum(false), "((1+?)+2)", 4);
        Shown.done("before a left part", Shown.ready("(1+2)", 0), x -> x.sum(true), "((?+1)+2)", 2);
        Shown.done("of a right part", Shown.ready("(1+2)", 1), x -> x.sum(false), "(1+(2+?))", 6);
        Shown.done("before a right part", Shown.ready("(1+2)", 1), x -> x.sum(true), "(1+(?+2))", 4);
    }

    private static void promise4RefusedWithoutRoom() {
        String forty = Keys.wide(40, "1");
        Keys.is("terms", Keys.made(forty).terms(), 40);
        refused("sum(false)", forty, x -> x.sum(false), 0, 1);
        refused("sum(true)", forty, x -> x.sum(true), 0, 1);
        String twelve = "{".repeat(11) + "?" + ":*}".repeat(11);
        refused("sum(false)", twelve, x -> x.sum(false));
        refused("sum(true)", twelve, x -> x.sum(true), 0, 0, 0, 0, 0, 0, 0, 0, 0, 0, 0);
    }

    private static void promise5OfTheProgramAndOfEachPart() {
        Shown.done("of a HOLE", Shown.ready("?"), x -> x.call(false), "?(?)", 2);
        Shown.done("before a HOLE", Shown.ready("?"), x -> x.call(true), "?(?)", 0);
        Shown.done("of a called part", Shown.ready("1(2)", 0), x -> x.call(false), "1(?)(2)", 2);
        Shown.done("before a called part", Shown.ready("1(2)", 0), x -> x.call(true), "?(1)(2)", 0);
        Shown.done("of an argument", Shown.ready("1(2)", 1), x -> x.call(false), "1(2(?))", 4);
        Shown.done("before an argument", Shown.ready("1(2)", 1), x -> x.call(true), "1(?(2))", 2);
        TermBench x = Shown.ready("1");
        x.call(true);
        Keys.is("the cursor is on the HOLE, not on the CALL", x.kind(), TermBench.HOLE);
    }

    private static void promise5RefusedWithoutRoom() {
        String forty = Keys.wide(40, "?");
        Keys.is("terms", Keys.made(forty).terms(), 40);
        refused("call(false)", forty, x -> x.call(false), 0, 1);
        refused("call(true)", forty, x -> x.call(true), 0, 1);
        String twelve = "?" + "(1)".repeat(11);
        refused("call(false)", twelve, x -> x.call(false));
        refused("call(true)", twelve, x -> x.call(true), 0, 0, 0, 0, 0, 0, 0, 0, 0, 0, 0);
    }

    // Promise 6: function, and promise 7: claim.

    private static void promise6RefusedWhenTheNameIsNone() {
        Shown.done("the least", Shown.ready("(1+2)", 1), x -> x.function(0, TermBench.INT), "(1+[a:#2])", 7);
        Shown.done("the greatest", Shown.ready("(1+2)", 1), x -> x.function(9, TermBench.INT), "(1+[j:#2])", 7);
        for (int k : new int[] {-2, -1, 10, 11, 256, 65536}) {
            refused("function " + k, "(1+2)", x -> x.function(k, TermBench.INT), 1);
        }
        for (int k : FAR) {
            refused("function " + k, "(1+2)", x -> x.function(k, TermBench.INT), 1);
        }
        refused("neither name nor type", "(1+2)", x -> x.function(10, 0), 1);
    }

    private static void promise6RefusedWhenTheTypeIsNone() {
        for (long type : NO_TYPES) {
            refused("function of " + type, "(1+2)", x -> x.function(3, type), 1);
        }
        Shown.done("function of 27", Shown.ready("(1+2)", 1), x -> x.function(3, 27), "(1+[d:<#*>2])", 10);
    }

    private static void promise6RefusedWithoutRoom() {
        String twelve = "[a:*".repeat(11) + "?" + "]".repeat(11);
        refused("function", twelve, x -> x.function(1, 1));
        refused("function", twelve, x -> x.function(1, 1), 0, 0, 0, 0, 0, 0, 0, 0, 0, 0, 0);
        String eleven = "[a:*".repeat(10) + "?" + "]".repeat(10);
        Shown.done("function", Shown.ready(eleven), x -> x.function(1, 2), "[b:#" + eleven + "]", 4);
    }

    private static void promise7RefusedWhenTheTypeIsNone() {
        for (long type : NO_TYPES) {
            refused("claim of " + type, "(1+2)", x -> x.claim(type), 1);
        }
        Shown.done("claim of 27", Shown.ready("(1+2)", 1), x -> x.claim(27), "(1+{2:<#*>})", 4);
    }

    private static void promise7RefusedWithoutRoom() {
        String twelve = "{".repeat(11) + "?" + ":*}".repeat(11);
        refused("claim", twelve, x -> x.claim(1));
        refused("claim", twelve, x -> x.claim(1), 0, 0, 0, 0, 0, 0, 0, 0, 0, 0, 0);
        String eleven = "{".repeat(10) + "?" + ":*}".repeat(10);
        Shown.done("claim", Shown.ready(eleven), x -> x.claim(2), "{" + eleven + ":#}", 1);
    }

    // Promise 8: remove.

    private static void promise8RefusedWhenItIsAHole() {
        for (String text : KINDS) {
            if (text.equals("?")) {
                refused("remove", text, TermBench::remove);
            } else {
                Shown.done("remove of " + text, Shown.ready(text), TermBench::remove, "?", 0);
                Shown.done("remove in " + text, Shown.ready("(1+" + text + ")", 1), TermBench::remove, "(1+?)", 3);
            }
        }
        refused("remove of a part", "(1+?)", TermBench::remove, 1);
        Shown.done("remove beside a HOLE", Shown.ready("(1+?)", 0), TermBench::remove, "(?+?)", 1);
        Shown.done("remove with HOLEs inside", Shown.ready("(1+(?+?))", 1), TermBench::remove, "(1+?)", 3);
    }

    // Promise 9: lift.

    private static void promise9RefusedWhenItIsTheProgram() {
        for (String text : KINDS) {
            refused("lift", text, TermBench::lift);
        }
        Shown.done("left", Shown.ready("((1+2)+3)", 0), TermBench::lift, "(1+2)", 0);
        Shown.done("right", Shown.ready("((1+2)+3)", 1), TermBench::lift, "3", 0);
        Shown.done("called", Shown.ready("1(2)(3)", 0), TermBench::lift, "1(2)", 0);
        Shown.done("argument", Shown.ready("1(?)", 1), TermBench::lift, "?", 0);
        Shown.done("body", Shown.ready("[a:#a]", 0), TermBench::lift, "a", 0);
        Shown.done("claimed", Shown.ready("{{1:#}:#}", 0), TermBench::lift, "{1:#}", 0);
        TermBench x = Shown.ready("(1+(2+3))", 1, 1);
        Shown.done("once", x, TermBench::lift, "(1+3)", 3);
        Shown.done("twice", x, TermBench::lift, "3", 0);
        Keys.is("no further", x.lift(), false);
    }

    // Promise 10: undo, and promise 11: redo.

    private static Supplier<TermBench> stepped(int edits, int back, int forth) {
        return () -> {
            TermBench x = new TermBench();
            for (int i = 0; i < edits; i++) {
                Keys.is("edit " + i, i % 2 == 0 ? x.number(i) : x.remove(), true);
            }
            for (int i = 0; i < back; i++) {
                Keys.is("undo " + i, x.undo(), true);
            }
            for (int i = 0; i < forth; i++) {
                Keys.is("redo " + i, x.redo(), true);
            }
            return x;
        };
    }

    private static void promise10FalseWhenNoneAreKept() {
        Shown.refused("after no edit", stepped(0, 0, 0), TermBench::undo);
        Shown.refused("after one edit undone", stepped(1, 1, 0), TermBench::undo);
        Shown.refused("after 15 edits undone", stepped(15, 15, 0), TermBench::undo);
        Shown.refused("after 16 edits undone", stepped(16, 16, 0), TermBench::undo);
        Shown.refused("after 17 edits, 16 of them undone", stepped(17, 16, 0), TermBench::undo);
        Shown.refused("after 40 edits, 16 of them undone", stepped(40, 16, 0), TermBench::undo);
        Shown.refused("after a refused edit", () -> {
            TermBench x = new TermBench();
            x.remove();
            return x;
        }, TermBench::undo);
        Keys.is("the 16th of 17", stepped(17, 15, 0).get().undo(), true);
        Keys.is("the only one", stepped(1, 0, 0).get().undo(), true);
        Keys.is("the one that redo kept", stepped(1, 1, 1).get().undo(), true);
    }

    private static void promise11FalseWhenNoneArePutBy() {
        Shown.refused("after no edit", stepped(0, 0, 0), TermBench::redo);
        Shown.refused("after an edit", stepped(1, 0, 0), TermBench::redo);
        Shown.refused("after one redone", stepped(1, 1, 1), TermBench::redo);
        Shown.refused("after 16 redone", stepped(16, 16, 16), TermBench::redo);
        Shown.refused("after 16 of 17 redone", stepped(17, 16, 16), TermBench::redo);
        Shown.refused("after an edit took them away", () -> {
            TermBench x = stepped(16, 16, 0).get();
            x.name(1);
            return x;
        }, TermBench::redo);
        Keys.is("the 16th", stepped(17, 16, 15).get().redo(), true);
        Keys.is("the only one", stepped(1, 1, 0).get().redo(), true);
    }

    // Promise 12: up, and promise 13: down.

    private static void promise12FalseAtTheProgram() {
        for (String text : KINDS) {
            refused("up", text, TermBench::up);
        }
        TermBench x = Shown.ready("{".repeat(11) + "?" + ":*}".repeat(11), 0, 0, 0, 0, 0, 0, 0, 0, 0, 0, 0);
        for (int i = 10; i >= 0; i--) {
            Keys.is("up", x.up(), true);
            Keys.is("column", x.column(), i);
        }
        Keys.is("no further", x.up(), false);
    }

    private static void promise13FalseWhenThereIsNoSuchPart() {
        int[] parts = {0, 0, 0, 2, 2, 1, 1};
        for (int kind = 0; kind < KINDS.length; kind++) {
            for (int i : new int[] {-2, -1, 0, 1, 2, 3}) {
                if (i < 0 || i >= parts[kind]) {
                    refused("down " + i, KINDS[kind], x -> x.down(i));
                    refused("down " + i, "(" + KINDS[kind] + "+(1+2))", x -> x.down(i), 0);
                } else {
                    Keys.is("down " + i + " in " + KINDS[kind], Shown.ready(KINDS[kind]).down(i), true);
                }
            }
            for (int i : FAR) {
                refused("down " + i, KINDS[kind], x -> x.down(i));
            }
        }
    }

    // Promise 14: hole.

    private static void next(String text, int column, int... path) {
        Shown.done("hole in " + text, Shown.ready(text, path), TermBench::hole, text, column);
        TermBench x = Shown.ready(text, path);
        x.hole();
        Keys.is("on a HOLE in " + text, x.kind(), TermBench.HOLE);
    }

    private static void promise14FalseWhenThereIsNoHole() {
        refused("hole", "1", TermBench::hole);
        refused("hole", "a", TermBench::hole);
        refused("hole", "(1+2)", TermBench::hole, 1);
        refused("hole", "[a:*{a(1):#}]", TermBench::hole, 0, 0);
        next("(1+?)", 3, 0);
    }

    private static void promise14TheNextBehindTheBeginning() {
        next("(?+(?+?))", 1);
        next("(?+(?+?))", 4, 0);
        next("(?+(?+?))", 4, 1);
        next("(?+(?+?))", 6, 1, 0);
        next("((1+?)+?)", 4, 0, 0);
        next("((1+?)+?)", 4, 0);
        next("?(?)", 2);
        next("?(?)", 2, 0);
        next("?(1)(?)", 5);
        next("?(1)(?)", 5, 0);
        next("[a:*?(?)]", 4);
        next("[a:*?(?)]", 6, 0);
    }

    private static void promise14TheFirstWhenNoneIsBehind() {
        next("(?+(?+?))", 1, 1, 1);
        next("(?+(?+1))", 1, 1, 1);
        next("(?+1)", 1, 1);
        next("?(1)", 0);
        next("?(1)", 0, 1);
        next("?(?)", 0, 1);
        next("(1+?(2))", 3, 1);
    }

    private static void promise14TheHoleAtTheCursorOnlyIfItIsTheOnlyOne() {
        next("?", 0);
        next("(1+?)", 3, 1);
        next("(?+1)", 1, 0);
        next("(?+?)", 3, 0);
        next("(?+?)", 1, 1);
    }

    // Promise 15: click, and promise 16: column.

    private static void promise15FalseWhenThereIsNoSuchColumn() {
        for (String text : new String[] {"?", "-999", "(1+2)", "a(-10)", "[a:<##>{1:#}]"}) {
            Keys.is("click(0) in " + text, Shown.ready(text).click(0), true);
            Keys.is("the last column of " + text, Shown.ready(text).click(text.length() - 1), true);
            refused("click(-1)", text, x -> x.click(-1));
            refused("click behind the last", text, x -> x.click(text.length()));
            refused("click further behind", text, x -> x.click(text.length() + 1));
            for (int column : FAR) {
                refused("click " + column, text, x -> x.click(column));
            }
        }
        TermBench x = Shown.ready("(123+4)");
        x.click(1);
        x.remove();
        Keys.is("the last column after a change", x.click(4), true);
        Keys.is("no column after a change", x.click(5), false);
        x.undo();
        Keys.is("the last column after undo", x.click(6), true);
        Keys.is("no column after undo", x.click(7), false);
    }

    private static void promise15TheInnermost() {
        clicked("-999", 0, TermBench.NUMBER, 0);
        clicked("-999", 3, TermBench.NUMBER, 0);
        clicked("(-99+b)", 0, TermBench.SUM, 0);
        clicked("(-99+b)", 1, TermBench.NUMBER, 1);
        clicked("(-99+b)", 3, TermBench.NUMBER, 1);
        clicked("(-99+b)", 4, TermBench.SUM, 0);
        clicked("(-99+b)", 5, TermBench.NAME, 5);
        clicked("(-99+b)", 6, TermBench.SUM, 0);
        clicked("b(?)", 0, TermBench.NAME, 0);
        clicked("b(?)", 1, TermBench.CALL, 0);
        clicked("b(?)", 2, TermBench.HOLE, 2);
        clicked("b(?)", 3, TermBench.CALL, 0);
        clicked("[a:<##>b]", 0, TermBench.FUNCTION, 0);
        clicked("[a:<##>b]", 1, TermBench.FUNCTION, 0);
        clicked("[a:<##>b]", 6, TermBench.FUNCTION, 0);
        clicked("[a:<##>b]", 7, TermBench.NAME, 7);
        clicked("[a:<##>b]", 8, TermBench.FUNCTION, 0);
        clicked("{b:<##>}", 0, TermBench.CLAIM, 0);
        clicked("{b:<##>}", 1, TermBench.NAME, 1);
        clicked("{b:<##>}", 2, TermBench.CLAIM, 0);
        clicked("{b:<##>}", 7, TermBench.CLAIM, 0);
    }

    private static void clicked(String text, int column, int kind, int begin) {
        TermBench x = Shown.ready(text);
        Shown.done("click " + column + " in " + text, x, y -> y.click(column), text, begin);
        Keys.is("kind at " + column + " in " + text, x.kind(), kind);
    }

    /** The FUNCTIONs with the longest types come to the longest text that there can be. */
    private static TermBench longest() {
        TermBench x = new TermBench();
        x.sum(true);
        x.up();
        x.sum(true);
        x.up();
        x.sum(true);
        for (int branch = 0; branch < 4; branch++) {
            while (x.function(branch, Keys.type("<".repeat(13) + "#" + "*>".repeat(13)))) {
                continue;
            }
            x.hole();
        }
        return x;
    }

    private static void promise15TheLastColumnOfTheLongestText() {
        TermBench x = longest();
        int length = 33 * 44 + 4 + 9;
        Keys.is("terms", x.terms(), 40);
        Keys.is("the last column", x.click(length - 1), true);
        Keys.is("it is the program's", x.up(), false);
        Keys.is("no further column", x.click(length), false);
        Keys.is("a HOLE near the end", x.hole() && x.hole() && x.hole() && x.hole(), true);
        Keys.is("its column is behind most", x.column() > 1000, true);
        int column = x.column();
        Keys.is("clicked on", x.click(column) ? x.kind() : -1, TermBench.HOLE);
    }

    private static void promise16TheBeginning() {
        Keys.is("program", Shown.ready("b(c)").column(), 0);
        Keys.is("called part begins with its CALL", Shown.ready("b(c)", 0).column(), 0);
        Keys.is("argument", Shown.ready("b(c)", 1).column(), 2);
        Keys.is("behind a long number", Shown.ready("(-999+1)", 1).column(), 6);
        Keys.is("behind a short number", Shown.ready("(0+1)", 1).column(), 3);
        String type = "<#".repeat(13) + "#" + ">".repeat(13);
        Keys.is("body behind a type of 27 symbols", Shown.ready("[a:" + type + "?]", 0).column(), 43);
    }

    // Promises 17 to 22: answers about the cursor's term and the program.

    private static void promise17EachKind() {
        for (int kind = 0; kind < KINDS.length; kind++) {
            Keys.is("kind of " + KINDS[kind], Shown.ready(KINDS[kind]).kind(), kind);
            Keys.is("kind of a part " + KINDS[kind], Shown.ready("(" + KINDS[kind] + "+1)", 0).kind(), kind);
        }
    }

    private static void promise18FineIfItHasNone() {
        Keys.is("no mark", Shown.ready("(1+[a:*a](2))", 1, 1).mark(), TermBench.FINE);
        Keys.is("FREE", Shown.ready("(b+1)", 0).mark(), TermBench.FREE);
        Keys.is("around FREE", Shown.ready("(b+1)").mark(), TermBench.FINE);
        Keys.is("beside FREE", Shown.ready("(b+1)", 1).mark(), TermBench.FINE);
        Keys.is("NO_FUNCTION", Shown.ready("1(2)").mark(), TermBench.NO_FUNCTION);
        Keys.is("in NO_FUNCTION", Shown.ready("1(2)", 0).mark(), TermBench.FINE);
        Keys.is("WRONG_NAME", Shown.ready("{[a:#1]:<<##>#>}", 0).mark(), TermBench.WRONG_NAME);
        Keys.is("around WRONG_NAME", Shown.ready("{[a:#1]:<<##>#>}").mark(), TermBench.FINE);
        Keys.is("MISFIT", Shown.ready("{1:<##>}", 0).mark(), TermBench.MISFIT);
        Keys.is("around MISFIT", Shown.ready("{1:<##>}").mark(), TermBench.FINE);
        TermBench x = Shown.ready("{1:<##>}", 0);
        Keys.is("before a change", x.mark(), TermBench.MISFIT);
        x.remove();
        Keys.is("after a change", x.mark(), TermBench.FINE);
        x.undo();
        Keys.is("after undo", x.mark(), TermBench.MISFIT);
    }

    private static void promise19OfAMarkedTerm() {
        Keys.is("FREE", Shown.ready("(b+1)", 0).got(), TermBench.ANY);
        Keys.is("NO_FUNCTION", Shown.ready("1(2)").got(), TermBench.ANY);
        Keys.is("WRONG_NAME", Shown.ready("{[a:#1]:<<##>#>}", 0).got(), Keys.type("<##>"));
        Keys.is("MISFIT", Shown.ready("{1:<##>}", 0).got(), TermBench.INT);
        String type = "<#".repeat(11) + "#" + ">".repeat(11);
        Keys.is("27 symbols", Shown.ready("[a:<#*>{?:" + type + "}]").got(), Keys.type("<<#*>" + type + ">"));
        Keys.is("29 symbols", Shown.ready("[a:<#*>{?:<#" + type + ">}]").got(), TermBench.ANY);
    }

    private static void promise20ZeroIfNothing() {
        for (String text : KINDS) {
            Keys.is("program " + text, Shown.ready(text).expected(), 0);
            Keys.is("called " + text, Shown.ready(text + "(1)", 0).expected(), 0);
            Keys.is("body " + text, Shown.ready("[b:#" + text + "]", 0).expected(), 0);
            Keys.is("body of a MISFIT " + text, Shown.ready("([b:#" + text + "]+1)", 0, 0).expected(), 0);
            Keys.is("part of a SUM " + text, Shown.ready("(" + text + "+1)", 0).expected(), TermBench.INT);
            Keys.is("argument " + text, Shown.ready("?(" + text + ")", 1).expected(), TermBench.ANY);
            Keys.is("claimed " + text, Shown.ready("{" + text + ":*}", 0).expected(), TermBench.ANY);
            String body = "{[b:#" + text + "]:*}";
            Keys.is("body of what is ANY " + text, Shown.ready(body, 0, 0).expected(), TermBench.ANY);
        }
    }

    private static void promise21NoneAndAll() {
        Keys.is("none", Shown.ready("(1+?)").marks(), 0);
        Keys.is("one", Shown.ready("(1+b)").marks(), 1);
        Keys.is("the program's", Shown.ready("b").marks(), 1);
        Keys.is("the program's and a part's", Shown.ready("1(b)").marks(), 2);
        Keys.is("wherever the cursor is", Shown.ready("(1+b)", 0).marks(), 1);
        String names = "(((b+c)+(d+e))+((f+g)+(h+i)))";
        Keys.is("eight", Shown.ready(names).marks(), 8);
        String all = "((" + names + "+(1(2)+1(2)))+({[a:#1]:<<##>#>}+[a:#1]))";
        Keys.is("of all sorts", Shown.ready(all).marks(), 8 + 2 + 3);
        Keys.is("every other of 39", Shown.ready(Keys.wide(39, "j")).marks(), 20);
    }

    private static void promise22OneToForty() {
        Keys.is("one", new TermBench().terms(), 1);
        TermBench x = new TermBench();
        for (int terms = 3; terms <= 23; terms += 2) {
            x.sum(false);
            Keys.is("by sums", x.terms(), terms);
        }
        Keys.is("refused", x.sum(false), false);
        Keys.is("as before", x.terms(), 23);
        Keys.at(x, 0);
        for (int terms = 24; terms <= 33; terms++) {
            Keys.is("by claims", x.claim(TermBench.INT) ? x.terms() : -1, terms);
        }
        Keys.at(x, 1, 0);
        for (int terms = 34; terms <= 40; terms++) {
            Keys.is("by functions", x.function(1, TermBench.INT) ? x.terms() : -1, terms);
        }
        Keys.is("no more", x.function(1, TermBench.INT), false);
        Keys.is("forty", x.terms(), 40);
        Keys.at(x).remove();
        Keys.is("one again", x.terms(), 1);
    }

    // Promise 23: text.

    private static long word(String eight) {
        long word = 0;
        for (int i = eight.length() - 1; i >= 0; i--) {
            word = word << 8 | eight.charAt(i);
        }
        return word;
    }

    private static void promise23TheFirstInTheLowestByte() {
        Keys.is("one character", Shown.ready("?").text(0), '?');
        Keys.is("two characters", Shown.ready("-1").text(0), '-' | '1' << 8);
        Keys.is("seven", Shown.ready("(12+34)").text(0), word("(12+34)"));
        Keys.is("eight", Shown.ready("(12+345)").text(0), word("(12+345)"));
        Keys.is("nine, the first eight", Shown.ready("(123+456)").text(0), word("(123+456"));
        Keys.is("nine, the last", Shown.ready("(123+456)").text(1), ')');
        String sixteen = "((12+3)+(456+7))";
        Keys.is("sixteen, the second eight", Shown.ready(sixteen).text(1), word("(456+7))"));
    }

    private static void promise23ZeroWhereThereIsNone() {
        Keys.is("behind one", Shown.ready("?").text(1), 0);
        Keys.is("behind seven", Shown.ready("(12+34)").text(1), 0);
        Keys.is("behind eight", Shown.ready("(12+345)").text(1), 0);
        Keys.is("behind nine", Shown.ready("(123+456)").text(2), 0);
        Keys.is("behind sixteen", Shown.ready("((12+3)+(456+7))").text(2), 0);
        for (int k : new int[] {-1, -2, 219, 220, 221, 1000, 1 << 28, 1 << 30, -(1 << 28)}) {
            Keys.is("text " + k, Shown.ready("(12+345)").text(k), 0);
        }
        for (int k : FAR) {
            Keys.is("text " + k, Shown.ready("(12+345)").text(k), 0);
        }
    }

    private static void promise23AfterAShorterText() {
        TermBench x = Shown.ready("((12+3)+(456+7))", 1);
        x.remove();
        Keys.is("shorter", x.text(1), ')' << 8 | '?');
        x.lift();
        Keys.is("one character", x.text(0), '?');
        Keys.is("none behind", x.text(1), 0);
    }

    private static void promise23TheLongestText() {
        TermBench x = longest();
        int length = 33 * 44 + 4 + 9;
        Keys.is("the last character", x.text((length - 1) / 8) >>> 8 * ((length - 1) % 8), ')');
        Keys.is("none behind", x.text((length - 1) / 8 + 1), 0);
    }

    // Promises 24 to 26: runs.

    private static void promise24EachOutcome() {
        Keys.is("a number", Shown.ready("1").run(), TermBench.A_NUMBER);
        Keys.is("a function", Shown.ready("[a:#1]").run(), TermBench.A_FUNCTION);
        Keys.is("dark", Shown.ready("?").run(), TermBench.DARK);
        Keys.is("spent", Shown.ready("[a:*a(a)]([a:*a(a)])").run(), TermBench.SPENT);
        Keys.is("the program, wherever the cursor is", Shown.ready("([a:#1](2)+3)", 0, 0).run(), TermBench.A_NUMBER);
    }

    private static void promise25ZeroIfItWasNoneOrNothingWasRun() {
        Keys.is("nothing was run", new TermBench().result(), 0);
        Keys.is("before another run", Shown.ready("?").result(), 42);
        for (String text : new String[] {"?", "[a:#1]", "b", "[a:*a(a)]([a:*a(a)])", "0"}) {
            TermBench x = Shown.ready(text);
            x.run();
            Keys.is("after a run of " + text, x.result(), 0);
        }
        for (int n : new int[] {-999, -1, 1, 999}) {
            TermBench x = Shown.ready("?");
            x.number(n);
            Keys.is("before the run", x.result(), 42);
            x.run();
            Keys.is("after the run", x.result(), n);
            x.remove();
            x.undo();
            x.redo();
            Keys.is("over edits", x.result(), n);
        }
    }

    private static void promise26ZeroIfNothingWasRun() {
        TermBench x = new TermBench();
        Keys.is("nothing was run", x.units(), 0);
        x.sum(false);
        Keys.is("an edit is no run", x.units(), 0);
        x.run();
        Keys.is("three", x.units(), 3);
        x.remove();
        x.lift();
        Keys.is("the latest run's", x.units(), 3);
        x.run();
        Keys.is("the run after it", x.units(), 1);
    }

    private static void promise26AtMost400() {
        TermBench x = Shown.ready("[a:*((a(a)+1)+(2+3))]([a:*((1+2)+((3+4)+a(a)))])");
        Keys.is("spent", x.run(), TermBench.SPENT);
        Keys.is("units", x.units() <= 400, true);
        TermBench y = Shown.ready("[a:*((((1+2)+(3+4))+((5+6)+7))+a(a))]([a:*((((1+2)+(3+4))+((5+6)+7))+a(a))])");
        Keys.is("spent by units", y.run(), TermBench.SPENT);
        Keys.is("all units", y.units(), 400);
        Keys.is("again", y.run(), TermBench.SPENT);
        Keys.is("not counted on", y.units(), 400);
    }
}
