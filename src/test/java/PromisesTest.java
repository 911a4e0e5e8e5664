/** A test for each promise of the document, by its number. */
public final class PromisesTest {
    private static final String LONG_TYPE = "<#".repeat(13) + "#" + ">".repeat(13);
    private static final String LEFT_TYPE = "<".repeat(13) + "#" + "*>".repeat(13);
    /** Doubles its argument 27 times. */
    private static final String DOUBLER =
        "[a:<##>[b:<##>[c:<##>c(c(c(999)))]([d:#b(b(b(d)))])]([e:#a(a(a(e)))])]([f:#(f+f)])";

    public static void main(String[] args) {
        promise1();
        promise2();
        promise3();
        promise4();
        promise5();
        promise6();
        promise7();
        promise8();
        promise9();
        promise10();
        promise11();
        promise12();
        promise13();
        promise14();
        promise15();
        promise16();
        promise17();
        promise18();
        promise19();
        promise20();
        promise21();
        promise22();
        promise23();
        promise24();
        promise25();
        promise26();
        Keys.end();
    }

    private static void promise1() {
        TermBench x = new TermBench();
        Keys.is("1 kind", x.kind(), TermBench.HOLE);
        Keys.is("1 text", Keys.text(x), "?");
        Keys.is("1 column", x.column(), 0);
        Keys.is("1 terms", x.terms(), 1);
        Keys.is("1 marks", x.marks(), 0);
        Keys.is("1 undo", x.undo(), false);
        Keys.is("1 redo", x.redo(), false);
        Keys.is("1 result", x.result(), 0);
        Keys.is("1 units", x.units(), 0);
        Keys.is("1 up", x.up(), false);
        TermBench y = new TermBench();
        y.number(4);
        Keys.is("1 two objects", Keys.text(x) + Keys.text(y), "?4");
    }

    private static void promise2() {
        for (int n : new int[] {0, 7, -7, 10, 99, 100, -100, 505, 999, -999}) {
            TermBench x = new TermBench();
            Keys.is("2 number " + n, x.number(n), true);
            Keys.is("2 text " + n, Keys.text(x), Integer.toString(n));
            Keys.is("2 kind " + n, x.kind(), TermBench.NUMBER);
            Keys.is("2 again " + n, x.number(n), false);
        }
        for (int n : new int[] {1000, -1000, Integer.MAX_VALUE, Integer.MIN_VALUE}) {
            refused("2 number " + n, "(1+?)", n, 1);
        }
        TermBench x = Keys.made("(1+?)");
        Keys.is("2 no HOLE", x.number(5), false);
        Keys.is("2 unchanged", Keys.text(x), "(1+?)");
    }

    private static void refused(String what, String text, int n, int part) {
        TermBench x = Keys.at(Keys.made(text), part);
        Keys.is(what, x.number(n), false);
        Keys.is(what + " unchanged", Keys.text(x), text);
        Keys.is(what + " kind", x.kind(), TermBench.HOLE);
    }

    private static void promise3() {
        for (int k = 0; k <= 9; k++) {
            TermBench x = new TermBench();
            Keys.is("3 name " + k, x.name(k), true);
            Keys.is("3 text " + k, Keys.text(x), Character.toString("abcdefghij".charAt(k)));
            Keys.is("3 kind " + k, x.kind(), TermBench.NAME);
            Keys.is("3 again " + k, x.name(k), false);
        }
        for (int k : new int[] {-1, 10, Integer.MAX_VALUE, Integer.MIN_VALUE}) {
            TermBench x = new TermBench();
            Keys.is("3 name " + k, x.name(k), false);
            Keys.is("3 unchanged " + k, Keys.text(x), "?");
            Keys.is("3 nothing kept " + k, x.undo(), false);
        }
    }

    private static void promise4() {
        TermBench x = Keys.made("f(3)");
        Keys.is("4 sum", x.sum(false), true);
        Keys.is("4 behind", Keys.text(x), "(f(3)+?)");
        Keys.is("4 cursor", x.column(), 6);
        x.number(2);
        Keys.is("4 sum of a part", x.sum(true), true);
        Keys.is("4 before", Keys.text(x), "(f(3)+(?+2))");
        Keys.is("4 cursor on the HOLE", x.kind(), TermBench.HOLE);
        Keys.is("4 cursor before", x.column(), 7);
        Keys.is("4 of a HOLE", x.sum(false), true);
        Keys.is("4 two HOLEs", Keys.text(x), "(f(3)+((?+?)+2))");
        Keys.is("4 cursor on the right one", x.column(), 10);
        x.undo();
        x.sum(true);
        Keys.is("4 cursor on the left one", x.column(), 8);
        tooMany("4 sum", true);
        tooDeep("4 sum", true);
    }

    private static void promise5() {
        TermBench x = Keys.made("(1+2)");
        Keys.is("5 call", x.call(false), true);
        Keys.is("5 behind", Keys.text(x), "(1+2)(?)");
        Keys.is("5 cursor", x.column(), 6);
        x.name(3);
        Keys.is("5 call of a part", x.call(true), true);
        Keys.is("5 before", Keys.text(x), "(1+2)(?(d))");
        Keys.is("5 cursor before", x.column(), 6);
        Keys.is("5 cursor on the HOLE", x.kind(), TermBench.HOLE);
        tooMany("5 call", false);
        tooDeep("5 call", false);
    }

    private static void tooMany(String what, boolean sum) {
        TermBench x = Keys.made(Keys.wide(37, "1"));
        Keys.is(what + " to 39", sum ? x.sum(false) : x.call(false), true);
        Keys.is(what + " 39", x.terms(), 39);
        String text = Keys.text(x);
        Keys.is(what + " to 41", sum ? x.sum(false) : x.call(true), false);
        Keys.is(what + " at 39 unchanged", Keys.text(x), text);
        Keys.is(what + " claim to 40", x.claim(TermBench.ANY), true);
        Keys.is(what + " 40", x.terms(), 40);
        Keys.is(what + " to 42", sum ? x.sum(true) : x.call(false), false);
        Keys.is(what + " claim to 41", x.claim(TermBench.ANY), false);
        Keys.is(what + " function to 41", x.function(0, TermBench.ANY), false);
        Keys.is(what + " a number still", x.number(1), true);
        Keys.is(what + " 40 still", x.terms(), 40);
    }

    /** The limit counts the terms inside one another below the cursor too, and no others. */
    private static void tooDeep(String what, boolean sum) {
        String text = "(" + "{".repeat(10) + "1" + ":#}".repeat(10) + "+?)";
        TermBench x = Keys.made(text);
        Keys.is(what + " around 12", sum ? x.sum(false) : x.call(true), false);
        Keys.is(what + " around 11 of 12", sum ? Keys.at(x, 0).sum(true) : Keys.at(x, 0).call(false), false);
        Keys.is(what + " claim around 12", Keys.at(x).claim(TermBench.INT), false);
        Keys.is(what + " function around 12", x.function(1, TermBench.INT), false);
        Keys.is(what + " unchanged", Keys.text(x), text);
        Keys.at(x, 1);
        for (int i = 0; i < 10; i++) {
            Keys.is(what + " beside " + i, sum ? x.sum(true) : x.call(false), true);
        }
        Keys.is(what + " 13 inside one another", sum ? x.sum(true) : x.call(false), false);
        Keys.is(what + " 33 terms", x.terms(), 33);
    }

    private static void promise6() {
        TermBench x = Keys.made("(1+?)");
        Keys.is("6 function", x.function(9, Keys.type("<#*>")), true);
        Keys.is("6 text", Keys.text(x), "[j:<#*>(1+?)]");
        Keys.is("6 cursor stays on the term", x.kind(), TermBench.SUM);
        Keys.is("6 column", x.column(), 7);
        x.down(1);
        Keys.is("6 around a HOLE", x.function(0, TermBench.ANY), true);
        Keys.is("6 cursor on the HOLE", x.kind(), TermBench.HOLE);
        Keys.is("6 inside", Keys.text(x), "[j:<#*>(1+[a:*?])]");
        Keys.is("6 name 10", x.function(10, 2), false);
        Keys.is("6 name -1", x.function(-1, 2), false);
        for (long bad : badTypes()) {
            Keys.is("6 type " + bad, x.function(0, bad), false);
        }
        Keys.is("6 unchanged", Keys.text(x), "[j:<#*>(1+[a:*?])]");
        Keys.is("6 27 symbols", x.function(1, Keys.type(LONG_TYPE)), true);
        Keys.is("6 27 symbols the other way", x.function(1, Keys.type(LEFT_TYPE)), true);
        Keys.is("6 long types", Keys.text(x), "[j:<#*>(1+[a:*[b:" + LONG_TYPE + "[b:" + LEFT_TYPE + "?]]])]");
    }

    private static long[] badTypes() {
        long from = 3;
        long tooLong = from | Keys.type(LONG_TYPE) << 2;
        return new long[] {0, 3, 4, 5, 6, 9, 10, 7, 11, 3 + 4 * 2 + 16 * 1 + 64 * 1, -1, Long.MIN_VALUE,
            Long.MAX_VALUE, Keys.type(LONG_TYPE) | 1L << 54, Keys.type(LONG_TYPE) | 1L << 63, 1L | 1L << 62,
            tooLong | 2L << 56, tooLong, 2L | 1L << 32, 3L << 32, (1L << 54) - 1, 3 + 16 * 2};
    }

    private static void promise7() {
        TermBench x = Keys.made("a(1)");
        Keys.is("7 claim", x.claim(Keys.type("<<*#>#>")), true);
        Keys.is("7 text", Keys.text(x), "{a(1):<<*#>#>}");
        Keys.is("7 cursor stays on the term", x.kind(), TermBench.CALL);
        Keys.is("7 column", x.column(), 1);
        x.down(1);
        Keys.is("7 claim of a part", x.claim(TermBench.INT), true);
        Keys.is("7 inside", Keys.text(x), "{a({1:#}):<<*#>#>}");
        for (long bad : badTypes()) {
            Keys.is("7 type " + bad, x.claim(bad), false);
        }
        Keys.is("7 unchanged", Keys.text(x), "{a({1:#}):<<*#>#>}");
        Keys.is("7 27 symbols", x.claim(Keys.type(LONG_TYPE)), true);
        Keys.is("7 got", Keys.at(x, 0, 1, 0).got(), Keys.type(LONG_TYPE));
    }

    private static void promise8() {
        TermBench x = Keys.at(Keys.made("((1+2)+[a:#a](3))"), 1);
        Keys.is("8 remove", x.remove(), true);
        Keys.is("8 text", Keys.text(x), "((1+2)+?)");
        Keys.is("8 cursor", x.column(), 7);
        Keys.is("8 terms", x.terms(), 5);
        Keys.is("8 a HOLE", x.remove(), false);
        Keys.is("8 first part", Keys.at(x, 0).remove(), true);
        Keys.is("8 what is behind stays", Keys.text(x), "(?+?)");
        Keys.is("8 number", x.number(-3) && x.remove(), true);
        Keys.is("8 the program", Keys.at(x).remove(), true);
        Keys.is("8 one HOLE", Keys.text(x), "?");
    }

    private static void promise9() {
        TermBench x = Keys.at(Keys.made("((1+[a:#(a+2)](3))+4)"), 0, 1, 0, 0);
        Keys.is("9 out of a FUNCTION", x.lift(), true);
        Keys.is("9 text", Keys.text(x), "((1+(a+2)(3))+4)");
        Keys.is("9 cursor", x.column(), 4);
        Keys.is("9 out of a CALL", x.lift(), true);
        Keys.is("9 text without the CALL", Keys.text(x), "((1+(a+2))+4)");
        Keys.is("9 right part", x.lift(), true);
        Keys.is("9 text without the SUM", Keys.text(x), "((a+2)+4)");
        Keys.is("9 cursor on the SUM", x.kind(), TermBench.SUM);
        Keys.is("9 left part", x.lift(), true);
        Keys.is("9 the program", Keys.text(x), "(a+2)");
        Keys.is("9 terms", x.terms(), 3);
        Keys.is("9 refused", x.lift(), false);
        Keys.is("9 unchanged", Keys.text(x), "(a+2)");
        TermBench y = Keys.at(Keys.made("{{1:#}:*}"), 0, 0);
        Keys.is("9 out of a CLAIM", y.lift(), true);
        Keys.is("9 CLAIM", Keys.text(y), "{1:*}");
        TermBench z = Keys.at(Keys.made("{".repeat(11) + "?" + ":#}".repeat(11)), 0);
        Keys.is("9 lifted", z.lift() && Keys.at(z).claim(1), true);
        Keys.is("9 room again, then none", z.claim(1), false);
    }

    private static void promise10() {
        TermBench x = Keys.made("(1+2)");
        Keys.at(x, 0);
        Keys.is("10 remove", x.remove(), true);
        Keys.at(x, 1);
        Keys.is("10 undo", x.undo(), true);
        Keys.is("10 text", Keys.text(x), "(1+2)");
        Keys.is("10 the cursor as it was before the edit", x.column(), 1);
        Keys.is("10 redo", x.redo(), true);
        Keys.is("10 the cursor as it was put by", x.column(), 3);
        TermBench y = new TermBench();
        for (int i = 0; i < 9; i++) {
            y.number(i);
            y.remove();
        }
        for (int i = 0; i < 16; i++) {
            Keys.is("10 sixteen are kept, " + i, y.undo(), true);
        }
        Keys.is("10 no more", y.undo(), false);
        Keys.is("10 the oldest kept", Keys.text(y), "?");
        Keys.is("10 redo to the next", y.redo() ? Keys.text(y) : "", "1");
        TermBench z = new TermBench();
        z.number(3);
        Keys.is("10 refused", z.number(4), false);
        Keys.is("10 undo past a refused edit", z.undo() ? Keys.text(z) : "", "?");
        Keys.is("10 undo at the beginning", z.undo(), false);
        Keys.is("10 undo keeps a run", runsOver(), 1);
    }

    private static int runsOver() {
        TermBench x = new TermBench();
        x.number(8);
        x.run();
        x.undo();
        return x.result() == 8 && x.units() == 1 ? 1 : 0;
    }

    private static void promise11() {
        TermBench x = new TermBench();
        x.sum(false);
        x.number(2);
        x.up();
        Keys.is("11 nothing put by", x.redo(), false);
        x.undo();
        x.undo();
        Keys.is("11 undone", Keys.text(x), "?");
        Keys.is("11 redo", x.redo(), true);
        Keys.is("11 text", Keys.text(x), "(?+?)");
        Keys.is("11 the cursor that was put by", x.column(), 3);
        x.up();
        Keys.is("11 redo again", x.redo(), true);
        Keys.is("11 the cursor that was on the SUM", x.column(), 0);
        Keys.is("11 no more", x.redo(), false);
        x.undo();
        Keys.is("11 redo kept the cursor", x.column(), 0);
        Keys.is("11 a refused edit takes nothing away", x.number(7), false);
        Keys.is("11 redo after it", x.redo(), true);
        x.undo();
        Keys.is("11 a move takes nothing away", x.down(0) && x.redo(), true);
        x.undo();
        Keys.is("11 an edit", x.claim(TermBench.INT), true);
        Keys.is("11 an edit takes all away", x.redo(), false);
        Keys.is("11 undo after it", x.undo() ? Keys.text(x) : "", "(?+?)");
        Keys.is("11 redo of it", x.redo() ? Keys.text(x) : "", "({?:#}+?)");
        sixteenBothWays();
    }

    private static void sixteenBothWays() {
        TermBench x = new TermBench();
        for (int i = 0; i < 10; i++) {
            x.number(i);
            x.remove();
        }
        x.number(10);
        for (int round = 0; round < 3; round++) {
            int back = 0;
            while (back < 40 && x.undo()) {
                back++;
            }
            Keys.is("11 back", back, 16);
            Keys.is("11 at the back", Keys.text(x), "2");
            int forth = 0;
            while (forth < 40 && x.redo()) {
                forth++;
            }
            Keys.is("11 forth", forth, 16);
            Keys.is("11 at the front", Keys.text(x), "10");
        }
    }

    private static void promise12() {
        TermBench x = Keys.at(Keys.made("(1+{[a:#a(2)]:*})"), 1, 0, 0, 1);
        Keys.is("12 up from the argument", x.up(), true);
        Keys.is("12 CALL", x.kind(), TermBench.CALL);
        Keys.is("12 up from the body", x.up() && x.kind() == TermBench.FUNCTION, true);
        Keys.is("12 up from the claimed part", x.up() && x.kind() == TermBench.CLAIM, true);
        Keys.is("12 up from the right part", x.up() && x.kind() == TermBench.SUM, true);
        Keys.is("12 at the program", x.up(), false);
        Keys.is("12 stays", x.column(), 0);
    }

    private static void promise13() {
        TermBench x = Keys.made("((1+2)+a(b))");
        Keys.is("13 down(2)", x.down(2), false);
        Keys.is("13 down(-1)", x.down(-1), false);
        Keys.is("13 down(max)", x.down(Integer.MAX_VALUE), false);
        Keys.is("13 down(min)", x.down(Integer.MIN_VALUE), false);
        Keys.is("13 stays", x.column(), 0);
        Keys.is("13 down(1)", x.down(1) && x.kind() == TermBench.CALL, true);
        Keys.is("13 argument", x.down(1), true);
        Keys.is("13 its column", x.column(), 9);
        Keys.is("13 a NAME has no parts", x.down(0), false);
        Keys.at(x, 1, 0);
        Keys.is("13 called part", x.column(), 7);
        Keys.at(x, 0, 1);
        Keys.is("13 right part of the left", x.column(), 4);
        Keys.is("13 a NUMBER has no parts", x.down(0), false);
        TermBench y = Keys.made("[a:#{?:*}]");
        Keys.is("13 a FUNCTION has one part", y.down(1), false);
        Keys.is("13 body", y.down(0) && y.kind() == TermBench.CLAIM, true);
        Keys.is("13 a CLAIM has one part", y.down(1), false);
        Keys.is("13 claimed part", y.down(0) && y.kind() == TermBench.HOLE, true);
        Keys.is("13 a HOLE has no parts", y.down(0), false);
    }

    private static void promise14() {
        TermBench x = Keys.made("(?+(1+?(?)))");
        int[] columns = {1, 6, 8, 1, 6};
        for (int column : columns) {
            Keys.is("14 hole", x.hole(), true);
            Keys.is("14 column", x.column(), column);
        }
        Keys.at(x, 1, 1);
        Keys.is("14 a HOLE at the beginning is not behind it", x.hole() ? x.column() : -1, 8);
        Keys.at(x, 1, 0);
        Keys.is("14 behind a NUMBER", x.hole() ? x.column() : -1, 6);
        TermBench y = Keys.made("?(1)");
        Keys.is("14 the first, when none is behind", y.hole(), true);
        Keys.is("14 on the HOLE", y.kind(), TermBench.HOLE);
        Keys.is("14 the only one", y.hole(), true);
        Keys.is("14 still on it", y.kind(), TermBench.HOLE);
        TermBench z = Keys.at(Keys.made("(?+(?+2))"), 1, 1);
        Keys.is("14 round to the first", z.hole() ? z.column() : -1, 1);
        TermBench none = Keys.at(Keys.made("(1+a)"), 1);
        Keys.is("14 no HOLE", none.hole(), false);
        Keys.is("14 stays", none.column(), 3);
        none.undo();
        none.redo();
        Keys.is("14 moves are not kept", none.redo(), false);
    }

    private static void promise15() {
        String text = "[b:<#*>({-12:#}+b(?))]";
        String owners = "fffffffscnnncccsNCHCsf";
        for (int i = 0; i < text.length(); i++) {
            TermBench x = Keys.made(text);
            Keys.is("15 click " + i, x.click(i), true);
            Keys.is("15 kind at " + i, x.kind(), "HnNsCfc".indexOf(owners.charAt(i)));
        }
        TermBench x = Keys.at(Keys.made(text), 0, 1, 1);
        for (int bad : new int[] {-1, text.length(), text.length() + 1, 5000, Integer.MAX_VALUE, Integer.MIN_VALUE}) {
            Keys.is("15 click " + bad, x.click(bad), false);
            Keys.is("15 stays", x.column(), 18);
        }
        Keys.is("15 of two CALLs", Keys.made("a(1)(2)").click(1), true);
        TermBench y = Keys.made("a(1)(2)");
        Keys.is("15 inner CALL", y.click(3) && y.up(), true);
        Keys.is("15 outer CALL", y.click(4) && y.up(), false);
    }

    private static void promise16() {
        String text = "({1:<##>}+[a:#a(-100)])";
        TermBench x = Keys.made(text);
        Keys.is("16 program", x.column(), 0);
        Keys.is("16 claim", Keys.at(x, 0).column(), 1);
        Keys.is("16 claimed", Keys.at(x, 0, 0).column(), 2);
        Keys.is("16 function", Keys.at(x, 1).column(), 10);
        Keys.is("16 call", Keys.at(x, 1, 0).column(), 14);
        Keys.is("16 called", Keys.at(x, 1, 0, 0).column(), 14);
        Keys.is("16 argument", Keys.at(x, 1, 0, 1).column(), 16);
        Keys.at(x, 0, 0).remove();
        Keys.is("16 after a change", x.number(-77) ? Keys.at(x, 1).column() : -1, 12);
    }

    private static void promise17() {
        TermBench x = Keys.made("({1:#}+[a:#a(?)])");
        Keys.is("17 SUM", x.kind(), 3);
        Keys.is("17 CLAIM", Keys.at(x, 0).kind(), 6);
        Keys.is("17 NUMBER", Keys.at(x, 0, 0).kind(), 1);
        Keys.is("17 FUNCTION", Keys.at(x, 1).kind(), 5);
        Keys.is("17 CALL", Keys.at(x, 1, 0).kind(), 4);
        Keys.is("17 NAME", Keys.at(x, 1, 0, 0).kind(), 2);
        Keys.is("17 HOLE", Keys.at(x, 1, 0, 1).kind(), 0);
    }

    private static void mark(String text, int mark, int... path) {
        Keys.is("18 mark in " + text, Keys.at(Keys.made(text), path).mark(), mark);
    }

    private static void promise18() {
        mark("?", TermBench.FINE);
        mark("a", TermBench.FREE);
        mark("[b:#a]", TermBench.FREE, 0);
        mark("[a:#a]", TermBench.FINE, 0);
        mark("([a:#1]+a)", TermBench.FREE, 1);
        mark("[a:#1](a)", TermBench.FREE, 1);
        mark("(([a:#1]+2)+(3+(4+a)))", TermBench.FREE, 1, 1, 1);
        mark("1(2)", TermBench.NO_FUNCTION);
        mark("1(2)", TermBench.FINE, 0);
        mark("(1+2)(3)", TermBench.NO_FUNCTION);
        mark("(1(2)+3)", TermBench.NO_FUNCTION, 0);
        mark("{1(2):<##>}", TermBench.NO_FUNCTION, 0);
        mark("?(2)", TermBench.FINE);
        mark("a(2)", TermBench.FINE);
        mark("1(2)(3)", TermBench.FINE);
        mark("{[a:#?]:<<**>*>}", TermBench.WRONG_NAME, 0);
        mark("{[a:<#<**>>?]:<<##>*>}", TermBench.WRONG_NAME, 0);
        mark("{[a:<*#>?]:<<#*>*>}", TermBench.FINE, 0);
        mark("{[a:*?]:<#*>}", TermBench.FINE, 0);
        mark("{[a:#?]:<**>}", TermBench.FINE, 0);
        mark("{[a:#a]:#}", TermBench.MISFIT, 0);
        mark("{[a:#a]:*}", TermBench.FINE, 0);
        mark("{[a:#a]:<#<##>>}", TermBench.FINE, 0);
        mark("{[a:#a]:<#<##>>}", TermBench.MISFIT, 0, 0);
        mark("{[a:#(1+a)]:<#<##>>}", TermBench.MISFIT, 0, 0);
        mark("{1:<##>}", TermBench.MISFIT, 0);
        mark("{1:<##>}", TermBench.FINE);
        mark("({1:<##>}+2)", TermBench.MISFIT, 0);
        mark("({?:*}+2)", TermBench.FINE, 0);
        mark("([a:#a]+2)", TermBench.MISFIT, 0);
        mark("(1+[a:#a])", TermBench.MISFIT, 1);
        mark("[a:<##>a(a)]", TermBench.MISFIT, 0, 1);
        mark("[a:<##>a(1)]", TermBench.FINE, 0, 1);
        mark("{?:<##>}(1)(2)", TermBench.NO_FUNCTION);
        mark("[a:<##>[a:#a(1)]]", TermBench.NO_FUNCTION, 0, 0);
        mark("[a:#[a:<##>a(1)]]", TermBench.FINE, 0, 0);
        mark("{{?:<##>}:<<##>#>}", TermBench.MISFIT, 0);
        mark("{{?:<#<*#>>}:<*<##>>}", TermBench.FINE, 0);
        mark("{{?:<#<*#>>}:<*<#<##>>>}", TermBench.MISFIT, 0);
    }

    private static void got(String text, String type, int... path) {
        Keys.is("19 got in " + text, Keys.at(Keys.made(text), path).got(), Keys.type(type));
    }

    private static void promise19() {
        got("?", "*");
        got("7", "#");
        got("b", "*");
        got("[b:<#*>b]", "<#*>", 0);
        got("[b:<#*>b]", "<<#*><#*>>");
        got("[b:<#*>[b:#b]]", "#", 0, 0);
        got("[b:<#*>[c:#b]]", "<#*>", 0, 0);
        got("([b:<#*>1]+b)", "*", 1);
        got("(?+a)", "#");
        got("{1:<##>}", "<##>");
        got("{?:<#<#*>>}(1)", "<#*>");
        got("{?:<#<#*>>}(1)(2)", "*");
        got("?(1)", "*");
        got("1(1)", "*");
        got("[a:#1(a)]", "<#*>");
        got("[a:#(a+1)]", "<##>");
        got("[a:#{1:<##>}]", "<#<##>>");
        got("[a:#{(1+{2:<##>}):#}]", "<##>");
        got("{[a:#1]:<<##>#>}", "<##>", 0);
        got("{[a:#1]:<##>}(2)", "#");
        String thirteen = "<#<#<#<#<#<##>>>>>>";
        got("[a:" + thirteen + "{?:" + thirteen + "}]", "<" + thirteen + thirteen + ">");
        got("[a:<#" + thirteen + ">{?:" + thirteen + "}]", "*");
        got("[a:#[a:" + thirteen + "{?:" + thirteen + "}]]", "*");
        got("[a:" + LONG_TYPE + "?]", "*");
        got("[a:" + LONG_TYPE + "a]", LONG_TYPE, 0);
        got("{" + "?:" + LEFT_TYPE + "}(2)", "*");
        Keys.is("19 of FROM INT TO ANY", Keys.made("[a:#?]").got(), 3 + 4 * 2 + 16 * 1);
    }

    private static void expected(String text, long type, int... path) {
        Keys.is("20 expected in " + text, Keys.at(Keys.made(text), path).expected(), type);
    }

    private static void promise20() {
        expected("1", 0);
        expected("(1+?)", 2, 0);
        expected("(1+?)", 2, 1);
        expected("?(?)", 0, 0);
        expected("?(?)", 1, 1);
        expected("1(?)", 1, 1);
        expected("{?:<<#*>#>}(?)", Keys.type("<#*>"), 1);
        expected("{?:<<#*>#>}(?)", Keys.type("<<#*>#>"), 0, 0);
        expected("{?:" + LEFT_TYPE + "}(?)", Keys.type(LEFT_TYPE.substring(1, LEFT_TYPE.length() - 2)), 1);
        expected("[a:#?]", 0, 0);
        expected("{[a:#?]:<#<*#>>}", Keys.type("<*#>"), 0, 0);
        expected("{[a:#?]:<<##><*#>>}", Keys.type("<*#>"), 0, 0);
        expected("{[a:#?]:*}", 1, 0, 0);
        expected("{[a:#?]:#}", 0, 0, 0);
        expected("{[a:#[b:#?]]:*}", 1, 0, 0, 0);
        expected("?([a:#?])", 1, 1, 0);
        expected("([a:#?]+1)", 0, 0, 0);
        expected("a(?)", 1, 1);
        expected("[a:<##>a(?)]", 2, 0, 1);
        expected("{[a:#1]:#}(?)", 1, 1);
        expected("({1:<##>}(?)+2)", 2, 0, 1);
        expected("[a:#1(2)](?)", 2, 1);
        expected("[a:<##>a](?)", Keys.type("<##>"), 1);
    }

    private static void promise21() {
        Keys.is("21 none", Keys.made("(1+[a:#a](?))").marks(), 0);
        Keys.is("21 one", Keys.made("a").marks(), 1);
        TermBench x = Keys.made("((a+1(2))+([b:<##>b]+{3:<##>}))");
        Keys.is("21 four and one inside", x.marks(), 5);
        Keys.is("21 at any cursor", Keys.at(x, 0).marks(), 5);
        x.remove();
        Keys.is("21 after a change", x.marks(), 3);
        x.undo();
        Keys.is("21 after undo", x.marks(), 5);
    }

    private static void promise22() {
        Keys.is("22 one", new TermBench().terms(), 1);
        TermBench x = Keys.made("((a+1(2))+([b:<##>b]+{3:<##>}))");
        Keys.is("22 terms", x.terms(), 11);
        Keys.is("22 at any cursor", Keys.at(x, 1).terms(), 11);
        x.lift();
        Keys.is("22 after a change", x.terms(), 5);
    }

    private static void promise23() {
        TermBench x = Keys.made("(12+345)");
        long word = 0;
        for (int i = 7; i >= 0; i--) {
            word = word << 8 | "(12+345)".charAt(i);
        }
        Keys.is("23 eight characters", x.text(0), word);
        Keys.is("23 behind the end", x.text(1), 0);
        for (int bad : new int[] {-1, 2, 219, 220, 221, 536870912, -536870912, Integer.MAX_VALUE, Integer.MIN_VALUE}) {
            Keys.is("23 text " + bad, x.text(bad), 0);
        }
        x.claim(TermBench.ANY);
        Keys.is("23 a part of eight", x.text(1), ')' | ':' << 8 | '*' << 16 | '}' << 24);
        x.lift();
        Keys.is("23 shorter again", x.text(1), 0);
        longText();
    }

    /** A program with as many characters as there can be: FUNCTIONs with the longest types. */
    private static void longText() {
        TermBench x = new TermBench();
        x.sum(false);
        x.up();
        x.call(false);
        x.up();
        x.sum(true);
        x.up();
        String type = "<".repeat(13) + "*" + "#>".repeat(13);
        int added = 0;
        for (int i = 0; i < 4; i++) {
            x.hole();
            while (x.function(i, Keys.type(type))) {
                added++;
            }
        }
        Keys.is("23 FUNCTIONs", added, 33);
        Keys.is("23 forty terms", x.terms(), 40);
        String text = Keys.text(x);
        Keys.is("23 its length", text.length(), 33 * (4 + type.length()) + 4 + 3 * 3 - 1);
        Keys.is("23 its last column", x.click(text.length() - 1), true);
        Keys.is("23 no further column", x.click(text.length()), false);
    }

    private static void outcome(String text, int outcome, int result, int units) {
        TermBench x = Keys.made(text);
        Keys.is("24 run of " + text, x.run(), outcome);
        Keys.is("25 result of " + text, x.result(), result);
        Keys.is("26 units of " + text, x.units(), units);
    }

    private static void promise24() {
        outcome("?", TermBench.DARK, 0, 1);
        outcome("-5", TermBench.A_NUMBER, -5, 1);
        outcome("a", TermBench.DARK, 0, 1);
        outcome("(1+2)", TermBench.A_NUMBER, 3, 3);
        outcome("(?+2)", TermBench.DARK, 0, 3);
        outcome("(2+?)", TermBench.DARK, 0, 3);
        outcome("([a:#a]+(1+2))", TermBench.DARK, 0, 5);
        outcome("[a:#a]", TermBench.A_FUNCTION, 0, 1);
        outcome("{[a:#a]:*}", TermBench.A_FUNCTION, 0, 2);
        outcome("{[a:#a]:#}", TermBench.DARK, 0, 2);
        outcome("{(1+2):*}", TermBench.A_NUMBER, 3, 4);
        outcome("1((2+3))", TermBench.DARK, 0, 1);
        outcome("?((2+3))", TermBench.DARK, 0, 5);
        outcome("a((2+3))", TermBench.DARK, 0, 5);
        outcome("{1:*}(2)", TermBench.DARK, 0, 4);
        outcome("[a:#(a+a)](21)", TermBench.A_NUMBER, 42, 6);
        outcome("[a:#7](?)", TermBench.A_NUMBER, 7, 4);
        outcome("[a:*a](?)", TermBench.DARK, 0, 4);
        outcome("[a:*[b:*a]](5)(6)", TermBench.A_NUMBER, 5, 7);
        outcome("[a:*[a:*a]](5)(6)", TermBench.A_NUMBER, 6, 7);
        outcome("[a:*[b:*(a+b)]](5)(6)", TermBench.A_NUMBER, 11, 9);
        outcome("[a:#[b:<##>[a:#(b(a)+a)](100)]([c:#(a+c)])](1)", TermBench.A_NUMBER, 201, 17);
        outcome("[a:#[b:<##>b([a:#1])]([c:#c])](1)", TermBench.DARK, 0, 10);
        outcome("{[a:#1]:<<##>#>}(2)", TermBench.DARK, 0, 4);
        outcome("[a:<##>a(3)]([b:#(b+-4)])", TermBench.A_NUMBER, -1, 9);
    }

    private static void promise25() {
        TermBench x = new TermBench();
        Keys.is("25 nothing was run", x.result(), 0);
        x.number(-999);
        Keys.is("25 not run yet", x.result(), 0);
        x.run();
        Keys.is("25 the number", x.result(), -999);
        x.remove();
        Keys.is("25 the latest run's", x.result(), -999);
        x.run();
        Keys.is("25 a run without a number", x.result(), 0);
        TermBench y = Keys.made(DOUBLER);
        Keys.is("25 doubled", y.run(), TermBench.A_NUMBER);
        Keys.is("25 wrapping", y.result(), 999 << 27);
        Keys.is("25 units", y.units(), 181);
        Keys.is("25 no marks", y.marks(), 0);
    }

    private static void promise26() {
        TermBench x = new TermBench();
        Keys.is("26 nothing was run", x.units(), 0);
        x.sum(false);
        x.run();
        Keys.is("26 units", x.units(), 3);
        x.undo();
        Keys.is("26 the latest run's", x.units(), 3);
        spentByUnits();
        spentByDepth();
        TermBench y = Keys.made("[a:#[b:#(a+b)](2)](1)");
        for (int i = 0; i < 300; i++) {
            y.run();
        }
        Keys.is("26 after many runs", y.units(), 9);
        Keys.is("26 the result after many runs", y.result(), 3);
    }

    /** Functions that are called 50 and 60 times: of these programs one takes 400 units to its end, the other 402. */
    private static void spentByUnits() {
        outcome("[a:<##>[b:<##>[c:<##>c(c(c(c(c(999)))))]([d:#b(b(b(b(b(d)))))])]([e:#a(a(e))])]([f:#({f:#}+1)])",
            TermBench.A_NUMBER, 1049, 400);
        String spent =
            "[a:<##>[b:<##>[c:<##>c(c(c(c(999))))]([d:#b(b(b(b(b(d)))))])]([e:#a(a(a({e:#})))])]([f:#(f+1)])";
        outcome(spent, TermBench.SPENT, 0, 400);
        TermBench x = Keys.made(spent);
        x.run();
        Keys.at(x, 1, 0).lift();
        Keys.is("26 a run after", x.run(), TermBench.DARK);
        Keys.is("26 from none on", x.units(), 222);
    }

    private static void spentByDepth() {
        outcome("[a:*a(a)]([a:*a(a)])", TermBench.SPENT, 0, 178);
        outcome("([a:*a(a)]([a:*a(a)])+(1+2))", TermBench.SPENT, 0, 175 + 1);
        outcome("((1+2)+[a:*a(a)]([a:*a(a)]))", TermBench.SPENT, 0, 175 + 1 + 3);
        outcome("[a:*a(a)]([a:*a(a)])((1+2))", TermBench.SPENT, 0, 175 + 1);
        outcome("[a:*1]([a:*a(a)]([a:*a(a)]))", TermBench.SPENT, 0, 175 + 2);
        outcome("{[a:*a(a)]([a:*a(a)]):#}", TermBench.SPENT, 0, 175 + 1);
        outcome("[a:*{a(a):*}]([a:*{a(a):*}])", TermBench.SPENT, 0, 3 + 29 * 4 + 1);
    }
}
