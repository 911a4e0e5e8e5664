/** Helpers of the tests: programs typed in from their texts, and checks that count what is wrong. */
final class Keys {
    private static int wrong = 0;
    private static String test = "";

    private final String text;
    private final TermBench bench;
    private int place = 0;

    private Keys(TermBench bench, String text) {
        this.bench = bench;
        this.text = text;
    }

    /** What is checked from now on is told with the name of this test. */
    static void begin(String name) {
        test = name + ": ";
    }

    static void is(String what, long got, long want) {
        if (got != want) {
            tell(what + ": answered " + got + ", due is " + want);
        }
    }

    static void is(String what, boolean got, boolean want) {
        is(what, got ? 1 : 0, want ? 1 : 0);
    }

    static void is(String what, String got, String want) {
        if (!got.equals(want)) {
            tell(what + ": answered " + got + ", due is " + want);
        }
    }

    static void tell(String fault) {
        wrong++;
        System.out.println(test + fault);
    }

    static void end() {
        System.out.println(wrong == 0 ? "all answers are as due" : wrong + " answers are not as due");
        if (wrong != 0) {
            System.exit(1);
        }
    }

    /** The whole text of the program. */
    static String text(TermBench bench) {
        StringBuilder all = new StringBuilder();
        for (int k = 0; k < 1000; k++) {
            long word = bench.text(k);
            for (int i = 0; i < 8; i++) {
                long sign = word >>> (8 * i) & 255;
                if (sign == 0) {
                    is("text behind the end", word >>> (8 * i), 0);
                    return all.toString();
                }
                all.append((char) sign);
            }
        }
        throw new IllegalStateException("a text without an end");
    }

    /** The long of a type written as in texts. */
    static long type(String written) {
        long type = 0;
        int count = 0;
        for (char sign : written.toCharArray()) {
            if (sign != '>') {
                type |= (long) (sign == '*' ? 1 : sign == '#' ? 2 : 3) << (2 * count);
                count++;
            }
        }
        return type;
    }

    /** A type as it is written in texts; its long where it is no type. */
    static String written(long type) {
        StringBuilder signs = new StringBuilder();
        writeType(type, signs);
        return type(signs.toString()) == type ? signs.toString() : Long.toString(type);
    }

    /** Answers what is left of a row of symbols behind the type at its beginning. */
    private static long writeType(long row, StringBuilder signs) {
        if ((row & 3) != 3) {
            signs.append((row & 3) == TermBench.INT ? '#' : '*');
            return row >>> 2;
        }
        signs.append('<');
        long rest = writeType(writeType(row >>> 2, signs), signs);
        signs.append('>');
        return rest;
    }

    /** A new object with a program of this text, the cursor on the program. */
    static TermBench made(String text) {
        TermBench bench = new TermBench();
        enter(bench, text);
        while (bench.up()) {
            continue;
        }
        is("made", text(bench), text);
        return bench;
    }

    /** Types a term in at the HOLE at the cursor; the cursor ends on that term. */
    static void enter(TermBench bench, String text) {
        new Keys(bench, text).term();
    }

    /** About half of an odd number, odd too, so that as much or little less is left beside it and one more. */
    static int half(int number) {
        return number / 4 * 2 + 1;
    }

    /** The text of a term with so many terms, few of them inside one another. */
    static String wide(int terms, String leaf) {
        if (terms % 2 == 0) {
            return "{" + wide(terms - 1, leaf) + ":#}";
        }
        return terms == 1 ? leaf : "(" + wide(half(terms), leaf) + "+" + wide(terms - 1 - half(terms), leaf) + ")";
    }

    /** The object with the cursor moved down from the program to part path[0], of that to part path[1] .. */
    static TermBench at(TermBench bench, int... path) {
        while (bench.up()) {
            continue;
        }
        for (int part : path) {
            is("down on the way", bench.down(part), true);
        }
        return bench;
    }

    private void term() {
        char sign = text.charAt(place);
        if (sign == '(') {
            place++;
            must(bench.sum(false));
            toPart(0);
            term();
            skip('+');
            toPart(1);
            term();
            skip(')');
            must(bench.up());
        } else if (sign == '[') {
            int name = text.charAt(place + 1) - 'a';
            place += 3;
            must(bench.function(name, type(writtenType())));
            term();
            skip(']');
            must(bench.up());
        } else if (sign == '{') {
            place++;
            term();
            skip(':');
            must(bench.claim(type(writtenType())));
            skip('}');
            must(bench.up());
        } else {
            leaf(sign);
        }
        while (place < text.length() && text.charAt(place) == '(') {
            place++;
            must(bench.call(false));
            term();
            skip(')');
            must(bench.up());
        }
    }

    private void leaf(char sign) {
        place++;
        if (sign >= 'a' && sign <= 'j') {
            must(bench.name(sign - 'a'));
        } else if (sign != '?') {
            int begin = place - 1;
            while (place < text.length() && Character.isDigit(text.charAt(place))) {
                place++;
            }
            must(bench.number(Integer.parseInt(text.substring(begin, place))));
        }
    }

    private String writtenType() {
        int begin = place;
        int open = 0;
        do {
            char sign = text.charAt(place++);
            open += sign == '<' ? 1 : sign == '>' ? -1 : 0;
        } while (open > 0);
        return text.substring(begin, place);
    }

    private void toPart(int i) {
        must(bench.up());
        must(bench.down(i));
    }

    private void skip(char sign) {
        if (text.charAt(place) != sign) {
            throw new IllegalStateException("no " + sign + " at " + place + " of " + text);
        }
        place++;
    }

    private static void must(boolean done) {
        if (!done) {
            throw new IllegalStateException("a key was refused");
        }
    }
}
