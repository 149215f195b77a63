/** Promises 11 to 14, where a directive is at fault: each of the faults, its place, and their order. */
public final class FaultsTest {
    private static final String CONVERSIONS = "bBsScCdoxXfeEgG%n";

    public static void main(String[] args) {
        formatEnds();
        unknownConversions();
        flagsTwice();
        lineFeeds();
        precisions();
        flags();
        widthsMissing();
        clashes();
        missingArguments();
        kinds();
        codes();
        lengths();
        firstThatFits();
        firstDirectiveCounts();
        whatStays();
        Check.end();
    }

    private static void formatEnds() {
        DirectivePrinter x = Printers.allKinds();
        String[] cut = {"%", "%5", "%1$", "%-", "%0", "%-#+0,(< ", "%5.3", "%.0", "%12345678901", "%1$-5.2", "%00",
            "%--", "%1$<"};
        for (String directive : cut) {
            Check.faults(x, directive, 1, 0);
            Check.faults(x, "ab%%" + directive, 1, 4);
        }
    }

    private static void unknownConversions() {
        DirectivePrinter x = Printers.allKinds();
        for (char c = 0; c < 256; c++) {
            boolean other = "-#+0,(< ".indexOf(c) >= 0 || c >= '0' && c <= '9';
            if (!other && CONVERSIONS.indexOf(c) < 0) {
                Check.faults(x, "%" + c, 2, 0);
                Check.faults(x, "x%-5" + c + "%", 2, 1);
            }
        }
        String[] odd = {"%.", "%.d", "%5.", "%5.d", "%.-3d", "%-.f", "%0$d", "%00$d", "%-1$d", "%1$2$d", "%5-d", "%5 d",
            "%5.3.f", "%5.3-f", "%$d", "%1$$d", "%1$.", "%--q", "%..1f", "%1.$d", "%\u0000", "%\u00ff"};
        for (String directive : odd) {
            Check.faults(x, directive, 2, 0);
        }
    }

    private static void flagsTwice() {
        DirectivePrinter x = Printers.allKinds();
        for (char flag : "-#+0,(< ".toCharArray()) {
            for (char conversion : CONVERSIONS.toCharArray()) {
                Check.faults(x, "%" + flag + flag + "5" + conversion, 3, 0);
                Check.faults(x, "%" + flag + "(" + flag + "(" + flag + conversion, 3, 0);
            }
        }
        Check.faults(x, "%005d", 3, 0);
        Check.faults(x, "%1$-0-d", 3, 0);
    }

    private static void lineFeeds() {
        DirectivePrinter x = Printers.allKinds();
        String[] dressed = {"%5n", "%.1n", "%.0n", "%-n", "%<n", "%0n", "% n", "%#n", "%+n", "%,n", "%(n", "%-5n", "%-05.3n"};
        for (String directive : dressed) {
            Check.faults(x, directive, 4, 0);
        }
        Check.prints(x, "%77$n", "\n");
    }

    private static void precisions() {
        DirectivePrinter x = Printers.allKinds();
        for (char conversion : "cCdoxX%".toCharArray()) {
            Check.faults(x, "%.0" + conversion, 5, 0);
            Check.faults(x, "%6$5.2" + conversion, 5, 0);
            Check.faults(x, "%#+0,(< -.2" + conversion, 5, 0);
        }
    }

    private static void flags() {
        DirectivePrinter x = Printers.allKinds();
        for (char conversion : CONVERSIONS.toCharArray()) {
            for (char flag : "-#+0,(< ".toCharArray()) {
                boolean barred = barredFlags(conversion).indexOf(flag) >= 0;
                String got = Check.outcome(x, "%" + numberOfFitting(conversion) + "$" + conversion + "%" + flag + "9" + conversion);
                boolean six = got.startsWith("6@");
                Check.due("flag " + flag + " with " + conversion + " at fault 6", six, barred && conversion != 'n');
            }
        }
        Check.faults(x, "%+s", 6, 0);
        Check.faults(x, "%0s", 6, 0);
        Check.faults(x, "%-0s", 6, 0);
        Check.faults(x, "%+ b", 6, 0);
        Check.faults(x, "%#-d", 6, 0);
    }

    private static String barredFlags(char conversion) {
        switch (conversion) {
            case 'd':
            case 'g':
            case 'G':
                return "#";
            case 'o':
            case 'x':
            case 'X':
                return "+,( ";
            case 'f':
                return "";
            case 'e':
            case 'E':
                return ",";
            default:
                return "#+0,( ";
        }
    }

    private static int numberOfFitting(char conversion) {
        return "feEgG".indexOf(conversion) >= 0 ? 9 : 6;
    }

    private static void widthsMissing() {
        DirectivePrinter x = Printers.allKinds();
        for (char conversion : "bBsScCdoxXfeEgG%".toCharArray()) {
            Check.faults(x, "%-" + conversion, 7, 0);
        }
        for (char conversion : "doxXfeEgG".toCharArray()) {
            Check.faults(x, "%0" + conversion, 7, 0);
            Check.faults(x, "%0-" + conversion, 7, 0);
        }
        Check.faults(x, "%-.3f", 7, 0);
        Check.faults(x, "%0+ f", 7, 0);
    }

    private static void clashes() {
        DirectivePrinter x = Printers.allKinds();
        for (char conversion : "doxXfeEgG".toCharArray()) {
            Check.faults(x, "%-05" + conversion, 8, 0);
            Check.faults(x, "%0-5" + conversion, 8, 0);
        }
        for (char conversion : "dfeEgG".toCharArray()) {
            Check.faults(x, "%+ " + conversion, 8, 0);
            Check.faults(x, "% (+5" + conversion, 8, 0);
        }
        Check.faults(x, "%99$+ d", 8, 0);
    }

    private static void missingArguments() {
        DirectivePrinter x = new DirectivePrinter();
        x.whole(32, 1L);
        x.whole(32, 2L);
        Check.faults(x, "%d%d%d", 9, 4);
        Check.faults(x, "%3$d", 9, 0);
        Check.prints(x, "%2$d", "2");
        Check.faults(x, "%9999$d", 9, 0);
        Check.faults(x, "%4294967297$d", 9, 0);
        Check.faults(x, "%18446744073709551617$d", 9, 0);
        Check.faults(x, "%<d", 9, 0);
        Check.faults(x, "%1$<d", 9, 0);
        Check.faults(x, "%n%%%<d", 9, 4);
        Check.faults(x, "%3$b", 9, 0);
        Check.faults(x, "%3$f", 9, 0);
        Check.faults(x, "%2$d%d%d%<d%d", 9, 11);
        x.clear();
        for (char conversion : "bBsScCdoxXfeEgG".toCharArray()) {
            Check.faults(x, "..%" + conversion, 9, 2);
        }
        Check.prints(x, "%9$%%<%", "%%");
    }

    private static void kinds() {
        DirectivePrinter x = Printers.allKinds();
        for (char conversion : "bBsScCdoxXfeEgG".toCharArray()) {
            for (int number = 1; number <= 9; number++) {
                String got = Check.outcome(x, " %" + number + "$" + conversion);
                boolean fits = fittingKinds(conversion).indexOf('0' + number) >= 0;
                Check.due("argument " + number + " with " + conversion, got.equals("10@1"), !fits);
                Check.due("argument " + number + " with " + conversion + " prints", got.startsWith("\""), fits);
            }
        }
    }

    private static String fittingKinds(char conversion) {
        switch (conversion) {
            case 'c':
            case 'C':
                return "13456";
            case 'd':
            case 'o':
            case 'x':
            case 'X':
                return "14567";
            case 'b':
            case 'B':
            case 's':
            case 'S':
                return "123456789";
            default:
                return "19";
        }
    }

    private static void codes() {
        DirectivePrinter x = new DirectivePrinter();
        x.whole(8, -1L);
        x.whole(16, 256L);
        x.whole(16, -1L);
        x.whole(32, 65601L);
        x.whole(32, -2147483648L);
        x.whole(32, 255L);
        x.whole(64, 256L);
        for (int number = 1; number <= 5; number++) {
            Check.faults(x, "%" + number + "$c", 11, 0);
            Check.faults(x, "%" + number + "$-5C", 11, 0);
        }
        Check.prints(x, "%6$c", "\u00ff");
        Check.faults(x, "%7$c", 10, 0);
    }

    private static void lengths() {
        DirectivePrinter x = Printers.allKinds();
        Check.faults(x, "%4097s", 12, 0);
        Check.faults(x, "%-4097s", 12, 0);
        Check.faults(x, "%6$04097d", 12, 0);
        Check.faults(x, "%9999%", 12, 0);
        Check.faults(x, "%99999999999%", 12, 0);
        Check.faults(x, "%4096s%%", 12, 6);
        Check.faults(x, "%4096s%n", 12, 6);
        Check.faults(x, "%4096s.%q", 12, 6);
        Check.faults(x, "%4095s..", 12, 7);
        Check.faults(x, "%4093s%s", 12, 6);
        Check.faults(x, "%4092sabcde", 12, 10);
        Check.prints(x, "%-4092s%s", "null" + " ".repeat(4088) + "true");
        Check.faults(x, "%9$.4095f", 12, 0);
        Check.faults(x, "%9$.9999f", 12, 0);
        Check.faults(x, "%9$.9999e", 12, 0);
        Check.faults(x, "%9$.9999g", 12, 0);
        Check.faults(x, "%9$-9999.9999g", 12, 0);
        Check.faults(x, "%9$.4091e", 12, 0);
        Check.faults(x, "%9$.4096g", 12, 0);
        Check.faults(x, "%1000s%1000s%1000s%1000s%1$97s", 12, 24);
        Check.faults(x, "%4096s%1$.1s", 12, 6);
        Check.prints(x, "%4096s%1$.0s", " ".repeat(4092) + "null");
    }

    private static void firstThatFits() {
        DirectivePrinter x = new DirectivePrinter();
        x.truth(true);
        x.whole(32, 256L);
        Check.faults(x, "%--q", 2, 0);
        Check.faults(x, "%--5.2n", 3, 0);
        Check.faults(x, "%##.2d", 3, 0);
        Check.faults(x, "%#.2n", 4, 0);
        Check.faults(x, "%#-.2d", 5, 0);
        Check.faults(x, "%#-d", 6, 0);
        Check.faults(x, "%-0+ d", 7, 0);
        Check.faults(x, "%-05d", 8, 0);
        Check.faults(x, "%9$5d", 9, 0);
        Check.faults(x, "%9999d", 10, 0);
        Check.faults(x, "%2$9999c", 11, 0);
        Check.faults(x, "%2$9999d", 12, 0);
    }

    private static void firstDirectiveCounts() {
        DirectivePrinter x = Printers.allKinds();
        Check.faults(x, "%s%d%q%", 10, 2);
        Check.faults(x, "%s ok %b %q %--d", 2, 9);
        Check.faults(x, "%%%%%s%", 1, 6);
        Check.faults(x, "%5000s%", 12, 0);
    }

    private static void whatStays() {
        DirectivePrinter x = new DirectivePrinter();
        x.truth(true);
        Check.prints(x, "<%s>", "<true>");
        Check.due("printed(-1)", x.printed(-1), -1);
        Check.due("printed(0)", x.printed(0), (int) '<');
        Check.due("printed(5)", x.printed(5), (int) '>');
        Check.due("printed(6)", x.printed(6), -1);
        Check.due("printed(lowest)", x.printed(Integer.MIN_VALUE), -1);
        Check.due("printed(highest)", x.printed(Integer.MAX_VALUE), -1);

        Check.faults(x, "ok %d", 10, 3);
        Check.due("nothing is what was printed last", x.printed(0), -1);
        x.wipe();
        x.clear();
        x.nothing();
        Check.append(x, "%d");
        Check.throwing("write(0, 0)", IllegalArgumentException.class, () -> x.write(0, 0L));
        Check.due("fault() until the next print()", x.fault(), 10);
        Check.due("place() until the next print()", x.place(), 3);
        Check.due("the same object prints again", Check.outcome(x), "\"null\"");
        Check.due("the format stays", x.wipe(), 2);
        x.clear();
        Check.due("fault() after a print() without", x.fault(), 0);
        Check.due("place() after a print() without", x.place(), -1);
        Check.due("what was printed stays", Check.printedText(x), "null");
        Check.due("print() again", x.print(), 0);
        Check.due("nothing is printed", x.printed(0), -1);
    }
}
