/** The boundary cases of the faults, one test for each sentence of the terms. */
public final class FaultBoundariesTest {
    private static final String FLAGS = "-#+0,(< ";
    private static final String CONVERSIONS = "bBsScCdoxXfeEgG%n";

    public static void main(String[] args) {
        orderSentences();
        formSentences();
        argumentSentences();
        Check.end();
    }

    private static void orderSentences() {
        String order = "FAULTS, of which a directive has the first one that fits; the first directive at fault counts.";
        Sentence.ofTerms(13, order, FaultBoundariesTest::firstFaultOfForm);
        Sentence.ofTerms(13, order, FaultBoundariesTest::firstFaultOfArguments);
        Sentence.ofTerms(14, order, FaultBoundariesTest::firstDirective);
    }

    private static void formSentences() {
        Sentence.ofTerms(13, "1 the format ends within it.", FaultBoundariesTest::formatEnds);
        Sentence.ofTerms(13, "2 its conversion is none of these.", FaultBoundariesTest::otherConversions);
        Sentence.ofTerms(13, "3 a flag twice.", FaultBoundariesTest::flagsTwice);
        Sentence.ofTerms(13, "4 for n: a width, a precision, or a flag.", FaultBoundariesTest::dressedLineFeeds);
        Sentence.ofTerms(13, "5 a precision with c C d o x X or %.", FaultBoundariesTest::precisions);
        Sentence.ofTerms(13, "6 flags that its conversion can't have: b B s S c C % have - < alone; d all but #; o x X"
                + " all but + , ( and the blank; f all; e E all but ,; g G all but #.",
                FaultBoundariesTest::flagsOfConversions);
        Sentence.ofTerms(13, "7 the flags - or 0 without a width.", FaultBoundariesTest::missingWidths);
        Sentence.ofTerms(13, "8 both of - and 0, or both of + and the blank.", FaultBoundariesTest::clashes);
    }

    private static void argumentSentences() {
        Sentence.ofTerms(13, "9 there is no such argument (for < no directive with an argument before).",
                FaultBoundariesTest::missingArguments);
        Sentence.ofTerms(13, "10 an argument of a kind that its conversion can't have: c C truths, texts, decimals,"
                + " whole numbers of 64 bits; d o x X all but whole numbers and nothing; f e E g G all but decimals and"
                + " nothing.", FaultBoundariesTest::wrongKinds);
        Sentence.ofTerms(13, "11 for c C a whole number that is no code 0 .. 255.", FaultBoundariesTest::noCodes);
        String length = "12 with what it prints there would be more than 4096 characters in all (this is met by a"
                + " character that is no part of a directive, too: then its place counts).";
        Sentence.ofTerms(13, length, FaultBoundariesTest::longDirectives);
        Sentence.ofTerms(14, length, FaultBoundariesTest::longTexts);
    }

    /** Argument 1 is a truth, 2 no code, 3 no code of 64 bits, 4 a decimal. */
    private static DirectivePrinter wrongForMost() {
        DirectivePrinter x = new DirectivePrinter();
        x.truth(true);
        x.whole(32, 256L);
        x.whole(64, 256L);
        x.decimal(5L, 1);
        return x;
    }

    private static void all(DirectivePrinter x, int fault, String... directives) {
        for (String directive : directives) {
            Check.faults(x, directive, fault, 0);
            Check.faults(x, "%%" + directive, fault, 2);
        }
    }

    /** Each directive fits the fault and one of those behind it, in their order. */
    private static void firstFaultOfForm() {
        DirectivePrinter x = wrongForMost();
        all(x, 1, "%--", "%.1", "%-", "%-0+ ", "%9$", "%9999");
        all(x, 2, "%--5q", "%.1q", "%#q", "%-q", "%-05q", "%9$q", "%9999q");
        all(x, 3, "%--n", "%--5.1d", "%##d", "%--d", "%--05d", "%9$--5d", "%--5d", "%2$--5c", "%--9999s");
        all(x, 4, "%-n", "%#n", "%-05n", "%+ n", "%9$5n", "%<n", "%9999n");
        all(x, 5, "%#.1d", "%-.1d", "%-05.1d", "%9$.1d", "%.1d", "%2$.1c", "%9999.1d");
        all(x, 6, "%-#d", "%-0#5d", "%9$#d", "%#d", "%2$#c", "%#9999d");
        all(x, 7, "%-0d", "%-+ d", "%0+ d", "%9$-d", "%-d", "%2$-c", "%4$-.9999f");
        all(x, 8, "%9$-05d", "%<+ d", "%-05d", "%+ d", "%-09999d");
    }

    private static void firstFaultOfArguments() {
        DirectivePrinter x = wrongForMost();
        all(x, 9, "%9$9999d", "%<9999d", "%9$9999c", "%5$9999s");
        all(x, 10, "%9999d", "%3$c", "%3$9999C", "%9999c", "%2$.9999f");
        all(x, 11, "%2$9999c", "%2$-9999C");
        all(x, 12, "%9999s", "%2$9999d", "%3$9999x", "%4$.9999e");
    }

    private static void firstDirective() {
        DirectivePrinter x = wrongForMost();
        Check.faults(x, "%9999s%9$s%d%2$c%", 12, 0);
        Check.faults(x, "%s%2$c%d%9$s%", 11, 2);
        Check.faults(x, "%s%1$d%9$s%", 10, 2);
        Check.faults(x, "%s%9$s%q%", 9, 2);
        Check.faults(x, "%s%-05d%-d%#d%.1d", 8, 2);
        Check.faults(x, "%s%-d%#d%.1d%-n%", 7, 2);
        Check.faults(x, "%s%s%s%s%s%q", 9, 8);
        Check.faults(x, "%%%n%s%q%q", 2, 6);
        Check.faults(x, "%4096s.%q", 12, 6);
        Check.faults(x, "%4096s%q.", 2, 6);
        Check.faults(x, "%s%", 1, 2);
    }

    private static void formatEnds() {
        DirectivePrinter x = wrongForMost();
        all(x, 1, "%", "%1", "%0", "%1$", "%-", "% ", "%<", "%-#+0,(< ", "%5", "%.0", "%5.3", "%1$-5.3", "%99999999999");
        Check.faults(x, "%%%", 1, 2);
        Check.faults(x, "%n%", 1, 2);
        Check.faults(x, "y".repeat(255) + "%", 1, 255);
        Check.faults(x, "y".repeat(251) + "%1$-5", 1, 251);
        Check.prints(x, "%1$-5s", "true ");
    }

    private static void otherConversions() {
        DirectivePrinter x = Printers.allKinds();
        for (char c = 0; c <= 255; c++) {
            boolean part = CONVERSIONS.indexOf(c) >= 0 || FLAGS.indexOf(c) >= 0 || c >= '1' && c <= '9';
            if (!part) {
                all(x, 2, "%" + c, "%1$" + c, "%-5" + c, "%.1" + c);
            }
        }
        all(x, 2, "%D", "%O", "%F", "%N", "%a", "%A", "%h", "%H", "%t", "%T", "%i", "%u");
    }

    private static void flagsTwice() {
        DirectivePrinter x = Printers.allKinds();
        for (char flag : FLAGS.toCharArray()) {
            for (char conversion : CONVERSIONS.toCharArray()) {
                all(x, 3, "%" + flag + flag + "9" + conversion);
            }
            for (char other : FLAGS.replace(String.valueOf(flag), "").toCharArray()) {
                all(x, 3, "%" + flag + other + flag + "9d", "%1$" + other + flag + flag + "d",
                        "%" + flag + flag + other + "9d");
            }
        }
        all(x, 3, "%000d", "%<-+0 (,#<9f");
        Check.prints(Printers.wholes(32, 5L), "%-+9d%1$-+9d", "+5       +5       ");
    }

    private static void dressedLineFeeds() {
        DirectivePrinter x = Printers.allKinds();
        all(x, 4, "%1n", "%9999n", "%.0n", "%.1n", "%1.1n", "%-1n");
        for (char flag : FLAGS.toCharArray()) {
            all(x, 4, "%" + flag + "n", "%1$" + flag + "n");
        }
        Check.prints(x, "%n%1$n%10$n", "\n\n\n");
    }

    private static void precisions() {
        DirectivePrinter x = Printers.allKinds();
        for (char conversion : "cCdoxX%".toCharArray()) {
            all(x, 5, "%.0" + conversion, "%.1" + conversion, "%.9999" + conversion, "%4$5.2" + conversion);
            Check.printsSomething(x, "%1$5" + conversion);
        }
        for (char conversion : "bBsSfeEgG".toCharArray()) {
            Check.printsSomething(x, "%1$.0" + conversion);
        }
    }

    /** Nothing suits all conversions, and each flag has a width, so that no other fault can be met. */
    private static void flagsOfConversions() {
        DirectivePrinter x = Printers.nothings(2);
        for (char conversion : CONVERSIONS.replace("n", "").toCharArray()) {
            for (char flag : FLAGS.toCharArray()) {
                String format = "%s%" + flag + "9" + conversion;
                if (flagsOf(conversion).indexOf(flag) >= 0) {
                    Check.printsSomething(x, format);
                } else {
                    Check.faults(x, format, 6, 2);
                }
            }
        }
        all(x, 6, "%-#5s", "%#-5d", "%0+5x", "%-,5e", "%0#5g");
    }

    private static String flagsOf(char conversion) {
        switch (conversion) {
            case 'd':
            case 'g':
            case 'G':
                return "-+0,(< ";
            case 'o':
            case 'x':
            case 'X':
                return "-#0<";
            case 'f':
                return FLAGS;
            case 'e':
            case 'E':
                return "-#+0(< ";
            default:
                return "-<";
        }
    }

    private static void missingWidths() {
        DirectivePrinter x = Printers.nothings(1);
        for (char conversion : "bBsScCdoxXfeEgG%".toCharArray()) {
            all(x, 7, "%-" + conversion, "%1$-" + conversion, "%-<" + conversion);
            Check.printsSomething(x, "%1$-1" + conversion);
        }
        for (char conversion : "doxXfeEgG".toCharArray()) {
            all(x, 7, "%0" + conversion, "%1$0" + conversion, "%-0" + conversion);
            Check.printsSomething(x, "%1$01" + conversion);
        }
        all(x, 7, "%-.3f", "%0.3f", "%-.3s");
    }

    private static void clashes() {
        DirectivePrinter x = Printers.nothings(1);
        for (char conversion : "doxXfeEgG".toCharArray()) {
            all(x, 8, "%-01" + conversion, "%0-1" + conversion, "%1$-0<5" + conversion);
        }
        for (char conversion : "dfeEgG".toCharArray()) {
            all(x, 8, "%+ " + conversion, "% +" + conversion, "% (+5" + conversion, "%-0+ 5" + conversion);
            Check.printsSomething(x, "%-+5" + conversion);
            Check.printsSomething(x, "%0 5" + conversion);
            Check.printsSomething(x, "%0+5" + conversion);
            Check.printsSomething(x, "%(+5" + conversion);
        }
    }

    private static void missingArguments() {
        for (char conversion : CONVERSIONS.replace("%", "").replace("n", "").toCharArray()) {
            DirectivePrinter none = new DirectivePrinter();
            all(none, 9, "%" + conversion, "%1$" + conversion, "%<" + conversion, "%9$5" + conversion);
            DirectivePrinter one = Printers.nothings(1);
            all(one, 9, "%2$" + conversion, "%<" + conversion, "%1$<" + conversion);
            Check.faults(one, "%" + conversion + "%" + conversion, 9, 2);
            DirectivePrinter nine = Printers.nothings(9);
            all(nine, 9, "%10$" + conversion, "%9999$" + conversion, "%<" + conversion);
            Check.printsSomething(nine, "%9$" + conversion);
        }
        Check.prints(new DirectivePrinter(), "%%%n%9$%%9$n%<%", "%\n%\n%");
    }

    private static void wrongKinds() {
        DirectivePrinter x = Printers.allKinds();
        for (char conversion : CONVERSIONS.replace("%", "").replace("n", "").toCharArray()) {
            for (int number = 1; number <= 9; number++) {
                String format = "%" + number + "$" + conversion;
                if (kindsOf(conversion).indexOf('0' + number) >= 0) {
                    Check.printsSomething(x, format);
                } else {
                    Check.faults(x, format, 10, 0);
                }
            }
        }
    }

    /** The numbers that the kinds have in Printers.allKinds(). */
    private static String kindsOf(char conversion) {
        switch (conversion) {
            case 'b':
            case 'B':
            case 's':
            case 'S':
                return "123456789";
            case 'c':
            case 'C':
                return "13456";
            case 'd':
            case 'o':
            case 'x':
            case 'X':
                return "14567";
            default:
                return "19";
        }
    }

    private static void noCodes() {
        for (String directive : new String[] {"%c", "%C", "%1$-9c", "%9C"}) {
            all(Printers.wholes(8, -1L), 11, directive);
            all(Printers.wholes(8, -128L), 11, directive);
            all(Printers.wholes(8, 128L), 11, directive);
            all(Printers.wholes(16, 256L), 11, directive);
            all(Printers.wholes(16, -1L), 11, directive);
            all(Printers.wholes(16, -32768L), 11, directive);
            all(Printers.wholes(32, 256L), 11, directive);
            all(Printers.wholes(32, -1L), 11, directive);
            all(Printers.wholes(32, 65536L), 11, directive);
            all(Printers.wholes(32, Integer.MIN_VALUE), 11, directive);
            all(Printers.wholes(32, Integer.MAX_VALUE), 11, directive);
            all(Printers.wholes(64, 65L), 10, directive);
        }
        Check.wholePrints(8, 0L, "%c", "\u0000");
        Check.wholePrints(8, 127L, "%c", "\u007f");
        Check.wholePrints(16, 255L, "%c", "\u00ff");
        Check.wholePrints(32, 255L, "%c", "\u00ff");
    }

    private static void longDirectives() {
        DirectivePrinter x = Printers.allKinds();
        String before = "%4094%";
        String blanks = " ".repeat(4093) + "%";
        Check.prints(x, before + "%8$s%8$s", blanks + "tt");
        Check.faults(x, before + "%8$s%8$s%8$s", 12, 14);
        Check.prints(x, before + "%n%%", blanks + "\n%");
        Check.faults(x, before + "%n%%%n", 12, 10);
        Check.faults(x, before + "%n%n%%", 12, 10);
        Check.prints(x, before + "%4$d", blanks + "65");
        Check.faults(x, before + "%4$+d", 12, 6);
        Check.faults(x, before + "%4$3d", 12, 6);
        Check.faults(x, before + "%4$-3d", 12, 6);
        Check.faults(x, before + "%4$03d", 12, 6);
        Check.faults(x, before + "%4$#x", 12, 6);
        Check.prints(x, before + "%2$.2b", blanks + "tr");
        Check.faults(x, before + "%2$.3b", 12, 6);
        Check.prints(x, before + "%9$.0f%8$.0s", blanks + "2");
        Check.prints(x, before + "%9$#.0f", blanks + "2.");
        Check.faults(x, before + "%9$.1f", 12, 6);
        Check.faults(x, before + "%9$.0e", 12, 6);
        Check.faults(x, before + "%9$g", 12, 6);
        Check.prints(x, "%4096s%8$.0s", " ".repeat(4092) + "null");
        Check.faults(x, "%4097s", 12, 0);
        Check.faults(x, "%-4097s", 12, 0);
        Check.faults(x, "%4$04097d", 12, 0);
        Check.prints(x, "%9$.4094f", "1.5" + "0".repeat(4093));
        Check.faults(x, "%9$.4095f", 12, 0);
        Check.prints(x, "%9$.4090e", "1.5" + "0".repeat(4089) + "e+00");
        Check.faults(x, "%9$.4091e", 12, 0);
        Check.prints(x, "%9$.4095g", "1.5" + "0".repeat(4093));
        Check.faults(x, "%9$.4096g", 12, 0);
        Check.prints(x, "%8$s".repeat(64), "t".repeat(64));
    }

    private static void longTexts() {
        DirectivePrinter x = Printers.allKinds();
        Check.prints(x, "%4090%abcdef", " ".repeat(4089) + "%abcdef");
        Check.faults(x, "%4090%abcdefg", 12, 12);
        Check.faults(x, "%4090%abcdefgh%q", 12, 12);
        Check.faults(x, "%4096% %", 12, 6);
        Check.faults(x, "ab%4094sc", 12, 8);
        Check.faults(x, "ab%4095s", 12, 2);
        Check.faults(x, "%4095%ab", 12, 7);
        Check.faults(x, "%3847%" + "y".repeat(250), 12, 255);
        Check.prints(x, "%3846%" + "y".repeat(250), " ".repeat(3845) + "%" + "y".repeat(250));
    }
}
