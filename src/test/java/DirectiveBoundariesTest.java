/** The boundary cases of the terms on arguments, the format, a directive and its argument, one test for each sentence. */
public final class DirectiveBoundariesTest {
    public static void main(String[] args) {
        argumentAndFormatSentences();
        directiveSentences();
        Check.end();
    }

    private static void argumentAndFormatSentences() {
        Sentence.ofTerms(5, "ARGUMENTS, numbered from 1 on, at most 9, are each: NOTHING; a TRUTH; a CHARACTER, with a"
                + " code 0 .. 255; a WHOLE number of 8, 16, 32 or 64 bits, with a sign; a TEXT of at most 64"
                + " characters; or a DECIMAL, an integer u (a long) and a scale s, 0 .. 40, with the value u divided by"
                + " 10 to the s.", DirectiveBoundariesTest::argumentsOfAllKinds);
        Sentence.ofTerms(2, "THE FORMAT is a text of at most 256 characters.",
                DirectiveBoundariesTest::directivesInTheLongestFormat);
        Sentence.ofTerms(11, "What is not a part of a directive is printed as it is.",
                DirectiveBoundariesTest::otherCharacters);
    }

    private static void directiveSentences() {
        String directive = "A DIRECTIVE is: %, perhaps an INDEX, digits (the first one not 0) with $ behind them; any"
                + " FLAGS of - # + 0 , ( < and the blank; perhaps a WIDTH, digits (the first one not 0); perhaps a"
                + " point and a PRECISION, one digit or more; and a CONVERSION, one character.";
        Sentence.ofTerms(11, directive, DirectiveBoundariesTest::indices);
        Sentence.ofTerms(11, directive, DirectiveBoundariesTest::flags);
        Sentence.ofTerms(11, directive, DirectiveBoundariesTest::widths);
        Sentence.ofTerms(11, directive, DirectiveBoundariesTest::precisions);
        Sentence.ofTerms(11, directive, DirectiveBoundariesTest::conversions);
        Sentence.ofTerms(11, "(Numbers are as said; one above 9999 counts as 9999.)",
                DirectiveBoundariesTest::largeNumbers);
        String argument = "Its argument: with the flag < that of the directive with an argument before it; else with an"
                + " index that one; else, for the first directive of this kind, argument 1, and for each other of this"
                + " kind the next one.";
        Sentence.ofTerms(11, argument, DirectiveBoundariesTest::sameArgument);
        Sentence.ofTerms(11, argument, DirectiveBoundariesTest::indexedArgument);
        Sentence.ofTerms(11, argument, DirectiveBoundariesTest::nextArgument);
        Sentence.ofTerms(11, "(% and n have none.)", DirectiveBoundariesTest::withoutArgument);
    }

    private static void argumentsOfAllKinds() {
        DirectivePrinter x = new DirectivePrinter();
        x.nothing();
        x.truth(false);
        x.symbol(255);
        x.whole(8, -128L);
        x.whole(16, -32768L);
        x.whole(32, -2147483648L);
        x.whole(64, Long.MIN_VALUE);
        Check.text(x, "t".repeat(64));
        x.decimal(Long.MIN_VALUE, 40);
        Check.prints(x, "%1$s %2$s %3$s %4$s %5$s %6$s", "null false \u00ff -128 -32768 -2147483648");
        Check.prints(x, "%7$s %8$s", "-9223372036854775808 " + "t".repeat(64));
        Check.prints(x, "%9$s", "-0." + "0".repeat(21) + "9223372036854775808");
        Check.faults(x, "%10$s", 9, 0);
        Check.due("a tenth argument", x.nothing(), DirectivePrinter.NONE);
        x.clear();
        x.symbol(0);
        x.whole(8, 127L);
        x.whole(64, Long.MAX_VALUE);
        Check.text(x, "");
        x.decimal(Long.MAX_VALUE, 0);
        x.decimal(Long.MAX_VALUE, 40);
        Check.prints(x, "%s %s %s %s %s", "\u0000 127 9223372036854775807  9223372036854775807");
        Check.prints(x, "%6$s", "0." + "0".repeat(21) + "9223372036854775807");
    }

    private static void directivesInTheLongestFormat() {
        DirectivePrinter x = Printers.wholes(32, 5L);
        Check.prints(x, "y".repeat(254) + "%d", "y".repeat(254) + "5");
        Check.prints(x, "%d" + "y".repeat(254), "5" + "y".repeat(254));
        Check.faults(x, "y".repeat(255) + "%", 1, 255);
        Check.prints(x, "%%".repeat(128), "%".repeat(128));
        Check.prints(x, "%" + "1".repeat(253) + "$%", "%");
        Check.faults(x, "%" + "1".repeat(254) + "d", 12, 0);
        Check.faults(x, "%" + "1".repeat(255), 1, 0);
        Check.faults(x, "%" + "-".repeat(255), 1, 0);
        Check.faults(x, "%" + "-".repeat(254) + "d", 3, 0);
        Check.prints(x, "%." + "0".repeat(252) + "1s", "5");
        Check.faults(x, "%." + "0".repeat(254), 1, 0);
    }

    private static void otherCharacters() {
        DirectivePrinter x = Printers.wholes(32, 5L);
        for (int code = 0; code <= 255; code++) {
            String one = String.valueOf((char) code);
            if (code != '%') {
                Check.prints(x, one, one);
                Check.prints(x, one + "%d" + one, one + "5" + one);
            }
        }
        Check.prints(x, "1$-5.2d%d1$-5.2d", "1$-5.2d51$-5.2d");
        Check.prints(x, "%dd%%d", "5d%d");
        Check.prints(x, "\\n\\%%", "\\n\\%");
    }

    private static void indices() {
        DirectivePrinter x = Printers.wholes(32, 1, 2, 3, 4, 5, 6, 7, 8, 9);
        Check.prints(x, "%1$d %9$d", "1 9");
        Check.faults(x, "%10$d", 9, 0);
        Check.faults(x, "%0$d", 2, 0);
        Check.faults(x, "%01$d", 2, 0);
        Check.faults(x, "%$d", 2, 0);
        Check.faults(x, "%1$$d", 2, 0);
        Check.faults(x, "%1$1$d", 2, 0);
        Check.faults(x, "%-2$d", 2, 0);
        Check.faults(x, "%2.1$d", 2, 0);
        Check.prints(x, "%2d", " 1");
        Check.prints(x, "%2$2d", " 2");
        Check.prints(x, "%2$02d", "02");
        Check.faults(x, "%1$", 1, 0);
    }

    private static void flags() {
        DirectivePrinter x = Printers.decimals("-1234.5");
        Check.prints(x, "%f", "-1234.500000");
        Check.prints(x, "%1$,(#012.0f", "(00001,235.)");
        Check.prints(x, "%1$0#(,12.0f", "(00001,235.)");
        Check.prints(x, "%1$,12.0f", "      -1,235");
        Check.prints(x, "%1$ -,12.0f|", "-1,235      |");
        Check.prints(x, "%1$+-,12.0f|", "-1,235      |");
        Check.prints(x, "%1$.0f%<.0f", "-1235-1235");
        Check.faults(x, "%-#+0,(< 9f", 8, 0);
        Check.faults(x, "% <(,0+#-9f", 8, 0);
        for (char other : "!\"&')*/:;=>?@_^~\t\n$".toCharArray()) {
            Check.faults(x, "%" + other + "9f", 2, 0);
        }
        for (char flag : "-#+,(< ".toCharArray()) {
            Check.faults(x, "%9" + flag + "f", 2, 0);
            Check.faults(x, "%9.1" + flag + "f", 2, 0);
            Check.faults(x, "%" + flag + "1$9f", 2, 0);
        }
    }

    private static void widths() {
        DirectivePrinter x = Printers.wholes(32, 5L);
        Check.prints(x, "%1d", "5");
        Check.prints(x, "%2d", " 5");
        Check.prints(x, "%9d", "        5");
        Check.prints(x, "%10d", "         5");
        Check.prints(x, "%05d", "00005");
        Check.prints(x, "%010d", "0000000005");
        Check.prints(x, "%-10d|", "5         |");
        Check.prints(x, "%101d", " ".repeat(100) + "5");
        Check.prints(x, "%1$1d", "5");
        Check.faults(x, "%0d", 7, 0);
        Check.faults(x, "%005d", 3, 0);
    }

    private static void precisions() {
        DirectivePrinter x = Printers.texts("abcdefghijkl");
        Check.prints(x, "%.0s|", "|");
        Check.prints(x, "%.00s|", "|");
        Check.prints(x, "%.1s", "a");
        Check.prints(x, "%.01s", "a");
        Check.prints(x, "%.10s", "abcdefghij");
        Check.prints(x, "%4.2s", "  ab");
        Check.prints(x, "%-4.2s|", "ab  |");
        Check.prints(x, "%1$.2s", "ab");
        for (String without : new String[] {"%.", "%5.", "%1$.", "%-5.", "%.s", "%5.s", "%.-1s", "%. 1s", "%..1s",
            "%.1.s", "%.1.1s", "%.2$s"}) {
            Check.faults(x, without, 2, 0);
        }
        Check.faults(x, "%.5", 1, 0);
    }

    private static void conversions() {
        DirectivePrinter x = Printers.allKinds();
        Check.prints(x, "%4$dd", "65d");
        Check.prints(x, "%8$ss", "ts");
        Check.prints(x, "%8$sS", "tS");
        Check.faults(x, "%%%", 1, 2);
        for (String conversion : "b B s S c C d o x X f e E g G % n".split(" ")) {
            Check.prints(x, "%1$" + conversion + "5", plainly(conversion) + "5");
        }
        Check.faults(x, "%4$ld", 2, 0);
        Check.faults(x, "%-5%%", 1, 4);
    }

    private static String plainly(String conversion) {
        switch (conversion) {
            case "%":
                return "%";
            case "n":
                return "\n";
            case "b":
                return "false";
            case "B":
                return "FALSE";
            default:
                return Character.isUpperCase(conversion.charAt(0)) ? "NULL" : "null";
        }
    }

    private static void largeNumbers() {
        DirectivePrinter x = Printers.texts("abc");
        x.decimal(5L, 0);
        // each but 9999 and 10000 would be 1 if it were cut to fewer digits or bits
        for (String large : new String[] {"9999", "10000", "10001", "65537", "100001", "4294967297", "10000000001",
            "18446744073709551617", "340282366920938463463374607431768211457"}) {
            Check.faults(x, "%" + large + "$s", 9, 0);
            Check.faults(x, "%" + large + "s", 12, 0);
            Check.faults(x, "%-" + large + "s", 12, 0);
            Check.faults(x, "%2$0" + large + "f", 12, 0);
            Check.faults(x, "%" + large + "%", 12, 0);
            Check.prints(x, "%." + large + "s", "abc");
            Check.prints(x, "%." + large + "b", "true");
            Check.faults(x, "%2$." + large + "f", 12, 0);
            Check.faults(x, "%2$." + large + "e", 12, 0);
            Check.faults(x, "%2$." + large + "g", 12, 0);
        }
        Check.prints(x, "%.00000000000000000000000000000000000000000000002s", "ab");
        Check.prints(x, "%4096s", " ".repeat(4093) + "abc");
        Check.prints(x, "%2$.4094f", "5." + "0".repeat(4094));
    }

    private static void sameArgument() {
        DirectivePrinter x = Printers.wholes(32, 1, 2, 3, 4, 5, 6, 7, 8, 9);
        Check.prints(x, "%d%<d%<d", "111");
        Check.prints(x, "%d%d%<d", "122");
        Check.prints(x, "%d%<d%d", "112");
        Check.prints(x, "%9$d%<d", "99");
        Check.prints(x, "%2$d%5$<d%<d", "222");
        Check.prints(x, "%2$d%%%n%<d", "2%\n2");
        Check.prints(x, "%2$d%<%%3$%%<d", "2%%2");
        Check.faults(x, "%<d", 9, 0);
        Check.faults(x, "%1$<d", 9, 0);
        Check.faults(x, "%n%%%1$%%<d", 9, 8);
        Check.prints(x, "%2$d", "2");
        Check.faults(x, "%<d%d", 9, 0);
    }

    private static void indexedArgument() {
        DirectivePrinter x = Printers.wholes(32, 1, 2, 3, 4, 5, 6, 7, 8, 9);
        Check.prints(x, "%1$d%9$d%9$d%1$d", "1991");
        Check.prints(x, "%9$d%d%8$d%d", "9182");
        Check.faults(x, "%9$d%10$d", 9, 4);
        for (int n = 1; n <= 8; n++) {
            DirectivePrinter fewer = Printers.nothings(n);
            Check.prints(fewer, "%" + n + "$s", "null");
            Check.faults(fewer, "%" + (n + 1) + "$s", 9, 0);
        }
    }

    private static void nextArgument() {
        DirectivePrinter x = Printers.wholes(32, 1, 2, 3, 4, 5, 6, 7, 8, 9);
        Check.prints(x, "%d", "1");
        Check.prints(x, "%d%d%d%d%d%d%d%d%d", "123456789");
        Check.faults(x, "%d%d%d%d%d%d%d%d%d%d", 9, 18);
        Check.prints(x, "%d%%%d%n%d%3$d%<d%d", "1%2\n3334");
        for (int n = 0; n <= 8; n++) {
            Check.faults(Printers.nothings(n), "%s".repeat(n + 1), 9, 2 * n);
        }
    }

    private static void withoutArgument() {
        DirectivePrinter none = new DirectivePrinter();
        Check.prints(none, "%%%n%5%%9$%%9$n%<%", "%\n    %%\n%");
        DirectivePrinter x = Printers.wholes(32, 1, 2);
        Check.prints(x, "%%%d%n%d%%", "%1\n2%");
        Check.prints(x, "%2$%%d%1$n%d", "%1\n2");
        Check.prints(x, "%d%2$%%2$n%<d", "1%\n1");
    }
}
