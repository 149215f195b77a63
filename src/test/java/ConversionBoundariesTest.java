/** The boundary cases of what a conversion prints, one test for each sentence of the terms. */
public final class ConversionBoundariesTest {
    private static final String LOWEST = "-9223372036854775808";
    private static final String HIGHEST = "9223372036854775807";
    /** 10 to the -40 is 0. and this and 1. */
    private static final String ZEROS = "0".repeat(39);

    public static void main(String[] args) {
        plainSentences();
        wholeSentences();
        decimalSentences();
        dressSentences();
        Check.end();
    }

    private static void plainSentences() {
        Sentence.ofTerms(11, "b B: false for nothing and the truth that is false; true for all else.",
                ConversionBoundariesTest::truths);
        Sentence.ofTerms(11, "With a precision its first characters alone, so many.",
                ConversionBoundariesTest::shortTruths);
        String plain = "s S: null for nothing; true or false; the character; a whole number in digits, - before it if it"
                + " is below 0; the text; a decimal with all its digits, - before them if it is below 0, a point before"
                + " the last s of them if s is above 0, and zeros before them so that one stands before the point at"
                + " least.";
        Sentence.ofTerms(11, plain, ConversionBoundariesTest::plainWords);
        Sentence.ofTerms(11, plain, ConversionBoundariesTest::plainWholes);
        Sentence.ofTerms(11, plain, ConversionBoundariesTest::plainDecimals);
        Sentence.ofTerms(11, "With a precision the first characters alone.", ConversionBoundariesTest::shortPlain);
        Sentence.ofTerms(11, "c C: the character; of a whole number of 8, 16 or 32 bits the character with this code;"
                + " null for nothing.", ConversionBoundariesTest::characters);
        Sentence.ofTerms(11, "Nothing is null with all of d o x X f e E g G.", ConversionBoundariesTest::nothing);
        Sentence.ofTerms(11, "% prints %, n a line feed (10).", ConversionBoundariesTest::withoutArgument);
    }

    private static void wholeSentences() {
        Sentence.ofTerms(11, "d: a whole number in digits.", ConversionBoundariesTest::wholes);
        Sentence.ofTerms(11, "o x X: a whole number to the base 8 or 16, digits 0 .. 9 a .. f; one below 0 as itself"
                + " with 2 to its bits.", ConversionBoundariesTest::otherBases);
        Sentence.ofTerms(11, "With the flag # 0 (o) or 0x (x X) before it.", ConversionBoundariesTest::namedBases);
    }

    private static void decimalSentences() {
        String fixed = "f: a decimal, rounded to as many digits behind the point as the precision says (6 without one):"
                + " to the nearest, of two as near the one farther from 0; without point if there are none, but with it"
                + " with the flag #.";
        Sentence.ofTerms(11, fixed, ConversionBoundariesTest::fixedPrecision);
        Sentence.ofTerms(11, fixed, ConversionBoundariesTest::fixedRounding);
        Sentence.ofTerms(11, fixed, ConversionBoundariesTest::fixedPoint);
        String withExponent = "e E: a decimal with one digit, not 0 (but 0 for 0), before the point, as many behind it"
                + " as the precision says (6 without one; the point as with f), rounded so (to one more before, if that"
                + " makes ten), then e, + or -, and the exponent in two digits or more.";
        Sentence.ofTerms(11, withExponent, ConversionBoundariesTest::exponentOfZero);
        Sentence.ofTerms(11, withExponent, ConversionBoundariesTest::exponentPrecision);
        Sentence.ofTerms(11, withExponent, ConversionBoundariesTest::exponentRounding);
        Sentence.ofTerms(11, withExponent, ConversionBoundariesTest::exponentsThemselves);
        String general = "g G: with the precision p (6 without one, 1 for 0): the decimal is rounded so to p digits,"
                + " from its first one that is not 0 on; if what comes of that is 0, or not below 0.0001 and below 10 to"
                + " the p in size, this is printed as with f, with so many digits behind the point that there are p in"
                + " all, from its first one that is not 0 on (p - 1 behind the point for 0); otherwise as with e and the"
                + " precision p - 1.";
        Sentence.ofTerms(11, general, ConversionBoundariesTest::generalPrecision);
        Sentence.ofTerms(11, general, ConversionBoundariesTest::generalOfZero);
        Sentence.ofTerms(11, general, ConversionBoundariesTest::generalAtTheLowerEnd);
        Sentence.ofTerms(11, general, ConversionBoundariesTest::generalAtTheUpperEnd);
    }

    private static void dressSentences() {
        Sentence.ofTerms(11, "Numbers of d f e E g G: with the flag , the digits before the point have a comma between"
                + " each three, from the last on (e and E can't).", ConversionBoundariesTest::groups);
        Sentence.ofTerms(11, "What is below 0 (also if it is rounded to 0) has - before it, or with the flag ( stands in"
                + " brackets; what is not has + before it with the flag +, a blank with the blank.",
                ConversionBoundariesTest::signs);
        String widened = "With the flag 0 zeros stand behind sign, bracket, 0x or 0 of # and before the digits, as many"
                + " as it takes to have the width in all; nothing and all else is widened by blanks before it, or behind"
                + " it with the flag -.";
        Sentence.ofTerms(11, widened, ConversionBoundariesTest::widenedByZeros);
        Sentence.ofTerms(11, widened, ConversionBoundariesTest::widenedByBlanks);
        Sentence.ofTerms(11, "Last, for a large letter, small letters a .. z become large ones.",
                ConversionBoundariesTest::largeLetters);
    }

    private static void truths() {
        DirectivePrinter x = new DirectivePrinter();
        x.nothing();
        x.truth(false);
        x.truth(true);
        x.symbol(0);
        x.whole(8, 0L);
        x.whole(64, 0L);
        Check.text(x, "");
        Check.text(x, "false");
        x.decimal(0L, 40);
        Check.prints(x, "%b %b", "false false");
        Check.prints(x, "%3$b %4$b %5$b %6$b %7$b %8$b %9$b", "true true true true true true true");
        Check.prints(x, "%B %2$B %3$B %9$B", "FALSE FALSE TRUE TRUE");
    }

    private static void shortTruths() {
        DirectivePrinter x = new DirectivePrinter();
        x.truth(false);
        x.truth(true);
        x.nothing();
        Check.prints(x, "%.0b|%1$.1b|%1$.4b|%1$.5b|%1$.6b", "|f|fals|false|false");
        Check.prints(x, "%2$.0b|%2$.1b|%2$.3b|%2$.4b|%2$.5b", "|t|tru|true|true");
        Check.prints(x, "%3$.0B|%3$.4B|%3$.9999B", "|FALS|FALSE");
        Check.prints(x, "%3.0b|%1$3.2b|%1$-3.2b|%2$3.3b|%2$3.4b", "   | fa|fa |tru|true");
    }

    private static void plainWords() {
        DirectivePrinter x = new DirectivePrinter();
        x.nothing();
        x.truth(true);
        x.truth(false);
        x.symbol(0);
        x.symbol(255);
        Check.text(x, "");
        Check.text(x, "t".repeat(64));
        Check.prints(x, "%s %s %s", "null true false");
        Check.prints(x, "%4$s%5$s[%6$s]%7$s", "\u0000\u00ff[]" + "t".repeat(64));
    }

    private static void plainWholes() {
        Check.wholePrints(8, 0L, "%s", "0");
        Check.wholePrints(8, -1L, "%s", "-1");
        Check.wholePrints(8, 127L, "%s", "127");
        Check.wholePrints(8, -128L, "%s", "-128");
        Check.wholePrints(16, -32768L, "%s", "-32768");
        Check.wholePrints(32, -2147483648L, "%s", "-2147483648");
        Check.wholePrints(64, Long.MAX_VALUE, "%s", HIGHEST);
        Check.wholePrints(64, Long.MIN_VALUE, "%s", LOWEST);
    }

    /** Printed with all its digits, a decimal is as Printers reads it. */
    private static void plainDecimals() {
        String[] written = {"0", "0.0", "0.00", "0." + ZEROS + "0", "5", "-5", "0.5", "-0.5", "1.2", "0.12", "0.012",
            "-0.012", "10", "1.0", "0.10", "0.010", "100.00", "-1.00", "9.9", "0.99", "1000000", "0.0000001",
            "-0." + ZEROS + "1", LOWEST, HIGHEST, "-922337203685477580.8", "-9.223372036854775808",
            "-0.9223372036854775808", "-0.09223372036854775808", "0." + "0".repeat(21) + HIGHEST};
        for (String one : written) {
            Check.decimalPrints(one, "%s", one);
        }
    }

    private static void shortPlain() {
        DirectivePrinter x = Printers.texts("abcde", "");
        x.nothing();
        x.whole(8, -128L);
        x.decimal(-5L, 1);
        Check.prints(x, "%.0s|%1$.1s|%1$.4s|%1$.5s|%1$.6s", "|a|abcd|abcde|abcde");
        Check.prints(x, "%2$.0s|%2$.1s|", "||");
        Check.prints(x, "%3$.0s|%3$.3s|%3$.4s|%3$.5s", "|nul|null|null");
        Check.prints(x, "%4$.1s|%4$.3s|%4$.4s|%4$.5s", "-|-12|-128|-128");
        Check.prints(x, "%5$.1s|%5$.2s|%5$.3s|%5$.4s|%5$.5s", "-|-0|-0.|-0.5|-0.5");
        Check.prints(x, "%1$6.4S|%1$-6.4S|%1$3.4S|%1$3.0S|", "  ABCD|ABCD  |ABCD|   |");
        DirectivePrinter most = Printers.texts("t".repeat(64));
        Check.prints(most, "%.63s %1$.64s", "t".repeat(63) + " " + "t".repeat(64));
        Check.prints(most, "%4095s%1$.1s", " ".repeat(4031) + "t".repeat(65));
    }

    private static void characters() {
        DirectivePrinter x = new DirectivePrinter();
        x.symbol(0);
        x.symbol(255);
        x.whole(8, 0L);
        x.whole(8, 127L);
        x.whole(16, 0L);
        x.whole(16, 255L);
        x.whole(32, 0L);
        x.whole(32, 255L);
        x.nothing();
        Check.prints(x, "%c%c%c%c%c%c%c%c%c", "\u0000\u00ff\u0000\u007f\u0000\u00ff\u0000\u00ffnull");
        Check.wholePrints(8, 0x141L, "%c", "A");
        Check.wholePrints(16, 0x100FFL, "%c", "\u00ff");
        Check.wholePrints(32, 0x100000041L, "%c", "A");
    }

    private static void nothing() {
        DirectivePrinter x = Printers.nothings(1);
        for (String conversion : "d o x f e g".split(" ")) {
            Check.prints(x, "%" + conversion, "null");
            Check.prints(x, "%4" + conversion + "%1$3" + conversion, "nullnull");
            Check.prints(x, "%05" + conversion + "%1$-5" + conversion + "|", " nullnull |");
        }
        for (String conversion : "X E G".split(" ")) {
            Check.prints(x, "%" + conversion, "NULL");
        }
        for (String conversion : "f e g".split(" ")) {
            Check.prints(x, "%.0" + conversion + "%1$.3" + conversion + "%1$.9999" + conversion, "nullnullnull");
        }
        Check.prints(x, "%+d%1$ d%1$(d%1$,d", "nullnullnullnull");
        Check.prints(x, "%#o%1$#x%1$#f%1$+e%1$ g", "nullnullnullnullnull");
    }

    private static void withoutArgument() {
        DirectivePrinter x = new DirectivePrinter();
        Check.prints(x, "%%", "%");
        Check.prints(x, "%1%%2%%-2%", "% %% ");
        Check.format(x, "%n");
        Check.due("print()", x.print(), 1);
        Check.due("the line feed", x.printed(0), 10);
        Check.prints(x, "%n%n", "\n\n");
    }

    private static void wholes() {
        for (long value : new long[] {0, 1, -1, 9, -9, 10, -10, 99, 100, 127, -128}) {
            for (int bits : new int[] {8, 16, 32, 64}) {
                Check.wholePrints(bits, value, "%d", String.valueOf(value));
            }
        }
        Check.wholePrints(64, Long.MAX_VALUE, "%d", HIGHEST);
        Check.wholePrints(64, Long.MIN_VALUE, "%d", LOWEST);
        Check.wholePrints(64, 1000000000000000000L, "%d", "1000000000000000000");
        Check.wholePrints(64, -999999999999999999L, "%d", "-999999999999999999");
    }

    private static void otherBases() {
        String both = "%x %1$X %1$o";
        Check.wholePrints(8, 0L, both, "0 0 0");
        Check.wholePrints(8, 7L, both, "7 7 7");
        Check.wholePrints(8, 8L, both, "8 8 10");
        Check.wholePrints(8, 9L, both, "9 9 11");
        Check.wholePrints(8, 10L, both, "a A 12");
        Check.wholePrints(8, 15L, both, "f F 17");
        Check.wholePrints(8, 16L, both, "10 10 20");
        Check.wholePrints(8, 127L, both, "7f 7F 177");
        Check.wholePrints(8, -1L, both, "ff FF 377");
        Check.wholePrints(8, -128L, both, "80 80 200");
        Check.wholePrints(16, 32767L, both, "7fff 7FFF 77777");
        Check.wholePrints(16, -1L, both, "ffff FFFF 177777");
        Check.wholePrints(16, -32768L, both, "8000 8000 100000");
        Check.wholePrints(32, 2147483647L, both, "7fffffff 7FFFFFFF 17777777777");
        Check.wholePrints(32, -1L, both, "ffffffff FFFFFFFF 37777777777");
        Check.wholePrints(32, -2147483648L, both, "80000000 80000000 20000000000");
        Check.wholePrints(64, Long.MAX_VALUE, both, "7fffffffffffffff 7FFFFFFFFFFFFFFF 777777777777777777777");
        Check.wholePrints(64, -1L, both, "ffffffffffffffff FFFFFFFFFFFFFFFF 1777777777777777777777");
        Check.wholePrints(64, Long.MIN_VALUE, both, "8000000000000000 8000000000000000 1000000000000000000000");
        Check.wholePrints(64, 0x0123456789ABCDEFL, "%x", "123456789abcdef");
        Check.wholePrints(64, 0xFEDCBA9876543210L, "%x", "fedcba9876543210");
    }

    private static void namedBases() {
        String all = "%#x %1$#X %1$#o";
        Check.wholePrints(8, 0L, all, "0x0 0X0 00");
        Check.wholePrints(8, 8L, all, "0x8 0X8 010");
        Check.wholePrints(8, -1L, all, "0xff 0XFF 0377");
        Check.wholePrints(64, -1L, "%#x %1$#o", "0xffffffffffffffff 01777777777777777777777");
        Check.wholePrints(8, 8L, "%#3x|%1$#4x|%1$#-4x|%1$#4o|%1$#2o", "0x8| 0x8|0x8 | 010|010");
    }

    private static void fixedPrecision() {
        Check.decimalPrints("0", "%f", "0.000000");
        Check.decimalPrints("1.5", "%f", "1.500000");
        Check.decimalPrints("0.000001", "%f", "0.000001");
        Check.decimalPrints("0.0000005", "%f", "0.000001");
        Check.decimalPrints("0.0000004", "%f", "0.000000");
        Check.decimalPrints("1.25", "%.0f %1$.1f %1$.2f %1$.3f", "1 1.3 1.25 1.250");
        Check.decimalPrints("0." + ZEROS + "1", "%.39f", "0." + ZEROS);
        Check.decimalPrints("0." + ZEROS + "1", "%.40f", "0." + ZEROS + "1");
        Check.decimalPrints("0." + ZEROS + "1", "%.41f", "0." + ZEROS + "10");
        Check.decimalPrints(LOWEST, "%f", LOWEST + ".000000");
        Check.decimalPrints(HIGHEST, "%.0f", HIGHEST);
        Check.decimalPrints("-0.9223372036854775808", "%.19f", "-0.9223372036854775808");
        Check.decimalPrints("-0.9223372036854775808", "%.18f", "-0.922337203685477581");
    }

    private static void fixedRounding() {
        String[][] wholeRounded = {{"0.4", "0"}, {"0.5", "1"}, {"0.6", "1"}, {"-0.4", "-0"}, {"-0.5", "-1"}, {"1.5", "2"},
            {"2.5", "3"}, {"-2.5", "-3"}, {"0.49", "0"}, {"0.4999999999", "0"}, {"0.50", "1"}, {"1.4999999999", "1"},
            {"0.45", "0"}, {"0.05", "0"}, {"0.09", "0"}, {"9.4", "9"}, {"9.5", "10"}, {"99.5", "100"}, {"0.99", "1"},
            {"0.999999999999999999", "1"}, {"922337203685477580.7", "922337203685477581"},
            {"-922337203685477580.8", "-922337203685477581"}, {"0." + ZEROS + "9", "0"}};
        for (String[] pair : wholeRounded) {
            Check.decimalPrints(pair[0], "%.0f", pair[1]);
        }
        Check.decimalPrints("0.04", "%.1f", "0.0");
        Check.decimalPrints("0.05", "%.1f", "0.1");
        Check.decimalPrints("0.95", "%.1f", "1.0");
        Check.decimalPrints("99.995", "%.2f", "100.00");
        Check.decimalPrints("99.994", "%.2f", "99.99");
        Check.decimalPrints("0.999999999999999999", "%.17f", "1.00000000000000000");
        Check.decimalPrints("0." + ZEROS + "5", "%.39f", "0." + "0".repeat(38) + "1");
        Check.decimalPrints("0." + ZEROS + "4", "%.39f", "0." + ZEROS);
        Check.decimalPrints("0." + ZEROS + "9", "%.38f", "0." + "0".repeat(38));
    }

    private static void fixedPoint() {
        Check.decimalPrints("2", "%.0f %1$#.0f", "2 2.");
        Check.decimalPrints("0", "%.0f %1$#.0f", "0 0.");
        Check.decimalPrints("2.5", "%.1f %1$#.1f", "2.5 2.5");
        Check.decimalPrints("-9.5", "%.0f %1$#.0f %1$(#.0f", "-10 -10. (10.)");
        Check.decimalPrints("2", "%#f", "2.000000");
        Check.decimalPrints("2", "%#2.0f|%1$#3.0f|%1$#-3.0f|%1$#03.0f", "2.| 2.|2. |02.");
    }

    private static void exponentOfZero() {
        Check.decimalPrints("0", "%e %1$.0e %1$#.0e %1$.1e %1$.3E", "0.000000e+00 0e+00 0.e+00 0.0e+00 0.000E+00");
        Check.decimalPrints("0." + ZEROS + "0", "%e %1$.0e %1$.50e", "0.000000e+00 0e+00 0." + "0".repeat(50) + "e+00");
    }

    private static void exponentPrecision() {
        Check.decimalPrints("1", "%e", "1.000000e+00");
        Check.decimalPrints("15", "%.0e %1$#.0e %1$.1e %1$.5e", "2e+01 2.e+01 1.5e+01 1.50000e+01");
        Check.decimalPrints("1234567", "%e", "1.234567e+06");
        Check.decimalPrints("12345678", "%e", "1.234568e+07");
        Check.decimalPrints(LOWEST, "%.18e", "-9.223372036854775808e+18");
        Check.decimalPrints(LOWEST, "%.17e", "-9.22337203685477581e+18");
        Check.decimalPrints(LOWEST, "%.19e", "-9.2233720368547758080e+18");
        Check.decimalPrints("0." + ZEROS + "1", "%.2e", "1.00e-40");
    }

    private static void exponentRounding() {
        Check.decimalPrints("9.4", "%.0e", "9e+00");
        Check.decimalPrints("9.5", "%.0e %1$#.0E", "1e+01 1.E+01");
        Check.decimalPrints("-9.5", "%.0e", "-1e+01");
        Check.decimalPrints("1.25", "%.1e", "1.3e+00");
        Check.decimalPrints("-1.25", "%.1e", "-1.3e+00");
        Check.decimalPrints("1.249", "%.1e", "1.2e+00");
        Check.decimalPrints("9.9999994", "%e", "9.999999e+00");
        Check.decimalPrints("9.9999995", "%e", "1.000000e+01");
        Check.decimalPrints("99.5", "%.1e", "1.0e+02");
        Check.decimalPrints("99.4", "%.1e", "9.9e+01");
        Check.decimalPrints("0.95", "%.0e", "1e+00");
        Check.decimalPrints("0.095", "%.0e", "1e-01");
        Check.decimalPrints("0.00000000095", "%.0e", "1e-09");
        Check.decimalPrints("9999999999", "%.0e", "1e+10");
        Check.decimalPrints("999999999999999999", "%.16e", "1.0000000000000000e+18");
        Check.decimalPrints("0." + "0".repeat(38) + "95", "%.0e", "1e-38");
    }

    private static void exponentsThemselves() {
        for (int exponent = 0; exponent <= 18; exponent++) {
            String two = (exponent < 10 ? "0" : "") + exponent;
            Check.decimalPrints("1" + "0".repeat(exponent), "%.1e", "1.0e+" + two);
        }
        for (int exponent = 1; exponent <= 40; exponent++) {
            String two = (exponent < 10 ? "0" : "") + exponent;
            Check.decimalPrints("0." + "0".repeat(exponent - 1) + "1", "%.1e", "1.0e-" + two);
        }
        Check.decimalPrints(HIGHEST, "%.0e", "9e+18");
        Check.decimalPrints("1.000", "%.0e", "1e+00");
    }

    private static void generalPrecision() {
        Check.decimalPrints("1.5", "%g %1$.0g %1$.1g %1$.2g %1$.3g", "1.50000 2 2 1.5 1.50");
        Check.decimalPrints("1.4", "%.0g %1$.1g", "1 1");
        Check.decimalPrints("15", "%.0g %1$.1g %1$.2g", "2e+01 2e+01 15");
        Check.decimalPrints("-2.5", "%.0g", "-3");
        Check.decimalPrints("0.000125", "%.2g", "0.00013");
        Check.decimalPrints("0.0001249", "%.2g", "0.00012");
        Check.decimalPrints("0.5", "%.1g %1$.2g %1$g", "0.5 0.50 0.500000");
        Check.decimalPrints("0.95", "%.1g", "1");
        Check.decimalPrints("9.95", "%.2g", "10");
        Check.decimalPrints("9.94", "%.2g", "9.9");
        Check.decimalPrints(HIGHEST, "%.18g", "9.22337203685477581e+18");
        Check.decimalPrints(HIGHEST, "%.19g %1$.20g", HIGHEST + " " + HIGHEST + ".0");
        Check.decimalPrints("0." + ZEROS + "1", "%g %1$.1G", "1.00000e-40 1E-40");
    }

    private static void generalOfZero() {
        Check.decimalPrints("0", "%g %1$.0g %1$.1g %1$.2g %1$.3G", "0.00000 0 0 0.0 0.00");
        Check.decimalPrints("0." + ZEROS + "0", "%g %1$.0g %1$.42g", "0.00000 0 0." + "0".repeat(41));
    }

    private static void generalAtTheLowerEnd() {
        Check.decimalPrints("0.0001", "%g %1$.0g %1$.1g %1$.2g", "0.000100000 0.0001 0.0001 0.00010");
        Check.decimalPrints("-0.0001", "%g", "-0.000100000");
        Check.decimalPrints("0.00009", "%g %1$.1g", "9.00000e-05 9e-05");
        Check.decimalPrints("0.0000999999", "%g", "9.99999e-05");
        Check.decimalPrints("0.00009999994", "%g", "9.99999e-05");
        Check.decimalPrints("0.00009999995", "%g", "0.000100000");
        Check.decimalPrints("-0.00009999995", "%g %1$.7g", "-0.000100000 -9.999995e-05");
        Check.decimalPrints("0.000095", "%.1g %1$.2g", "0.0001 9.5e-05");
        Check.decimalPrints("0.000094", "%.1g", "9e-05");
        Check.decimalPrints("0.00010000004", "%g %1$.8g", "0.000100000 0.00010000004");
        Check.decimalPrints("0.0009999995", "%g", "0.00100000");
    }

    private static void generalAtTheUpperEnd() {
        Check.decimalPrints("100000", "%g", "100000");
        Check.decimalPrints("999999", "%g", "999999");
        Check.decimalPrints("999999.4", "%g", "999999");
        Check.decimalPrints("999999.5", "%g", "1.00000e+06");
        Check.decimalPrints("-999999.5", "%g %1$.7g", "-1.00000e+06 -999999.5");
        Check.decimalPrints("1000000", "%g %1$.7g %1$.8g", "1.00000e+06 1000000 1000000.0");
        Check.decimalPrints("99999.95", "%g", "100000");
        Check.decimalPrints("99999.94", "%g", "99999.9");
        Check.decimalPrints("9", "%.0g %1$.1g %1$.2g", "9 9 9.0");
        Check.decimalPrints("9.4", "%.1g", "9");
        Check.decimalPrints("9.5", "%.1g", "1e+01");
        Check.decimalPrints("10", "%.1g %1$.2g %1$.3g", "1e+01 10 10.0");
        Check.decimalPrints("99.5", "%.2G", "1.0E+02");
    }

    private static void groups() {
        String[][] grouped = {{"0", "0"}, {"9", "9"}, {"99", "99"}, {"999", "999"}, {"1000", "1,000"}, {"9999", "9,999"},
            {"10000", "10,000"}, {"100000", "100,000"}, {"999999", "999,999"}, {"1000000", "1,000,000"},
            {"-999", "-999"}, {"-1000", "-1,000"}, {HIGHEST, "9,223,372,036,854,775,807"},
            {LOWEST, "-9,223,372,036,854,775,808"}, {"1000000000000000000", "1,000,000,000,000,000,000"}};
        for (String[] pair : grouped) {
            Check.wholePrints(64, Long.parseLong(pair[0]), "%,d", pair[1]);
            Check.decimalPrints(pair[0], "%,.0f", pair[1]);
            Check.decimalPrints(pair[0], "%,f", pair[1] + ".000000");
            Check.decimalPrints(pair[0], "%,.19g", pair[0].equals("0") ? "0." + "0".repeat(18)
                    : pair[1] + behindPoint(19 - pair[0].replace("-", "").length()));
        }
        Check.decimalPrints("999.4", "%,.0f", "999");
        Check.decimalPrints("999.5", "%,.0f", "1,000");
        Check.decimalPrints("1234.5678", "%,.4f", "1,234.5678");
        Check.decimalPrints("0.1234567", "%,.7f", "0.1234567");
        Check.decimalPrints("1234567", "%,g", "1.23457e+06");
        Check.decimalPrints("999999", "%,g", "999,999");
        Check.decimalPrints("1000", "%(,.0f %1$,5.0f %1$,6.0f %1$,-6.0f|", "1,000 1,000  1,000 1,000 |");
        Check.wholePrints(32, 1234L, "%,010d", "000001,234");
        Check.faults(Printers.decimals("1000"), "%,e", 6, 0);
        Check.faults(Printers.decimals("1000"), "%,E", 6, 0);
    }

    private static String behindPoint(int digits) {
        return digits == 0 ? "" : "." + "0".repeat(digits);
    }

    private static void signs() {
        Check.wholePrints(32, 0L, "%d %1$+d %1$ d %1$(d %1$(+d %1$( d", "0 +0  0 0 +0  0");
        Check.wholePrints(32, -1L, "%d %1$+d %1$ d %1$(d %1$(+d %1$( d", "-1 -1 -1 (1) (1) (1)");
        Check.wholePrints(32, 1L, "%d %1$+d %1$ d %1$(d", "1 +1  1 1");
        Check.wholePrints(64, Long.MIN_VALUE, "%(d", "(9223372036854775808)");
        String each = "%.0f %1$+.0f %1$ .0f %1$(.0f %1$(+.0f %1$( .0f";
        Check.decimalPrints("-0.4", each, "-0 -0 -0 (0) (0) (0)");
        Check.decimalPrints("0.4", each, "0 +0  0 0 +0  0");
        Check.decimalPrints("0.0", each, "0 +0  0 0 +0  0");
        Check.decimalPrints("-0." + ZEROS + "1", "%f %1$(f %1$,f", "-0.000000 (0.000000) -0.000000");
        Check.decimalPrints("-0." + ZEROS + "1", "%.0e %1$(.0E %1$(.1g", "-1e-40 (1E-40) (1e-40)");
        Check.decimalPrints("0", "%+e %1$ e %1$(e", "+0.000000e+00  0.000000e+00 0.000000e+00");
        Check.decimalPrints("0", "%+g %1$ g %1$(g", "+0.00000  0.00000 0.00000");
        Check.decimalPrints("-2", "%(.1e %1$(.1g %1$+.1E %1$ .1G", "(2.0e+00) (2) -2.0E+00 -2");
    }

    private static void widenedByZeros() {
        Check.wholePrints(32, -12L, "%01d %1$02d %1$03d %1$04d", "-12 -12 -12 -012");
        Check.wholePrints(32, -12L, "%(03d %1$(04d %1$(05d", "(12) (12) (012)");
        Check.wholePrints(32, 12L, "%02d %1$03d %1$+03d %1$+04d %1$ 03d %1$ 04d", "12 012 +12 +012  12  012");
        Check.wholePrints(8, -1L, "%#04x %1$#05x %1$#06X %1$02x %1$03x", "0xff 0x0ff 0X00FF ff 0ff");
        Check.wholePrints(8, -1L, "%#04o %1$#05o %1$03o %1$04o", "0377 00377 377 0377");
        Check.decimalPrints("-1.5", "%04.1f %1$05.1f %1$(05.1f %1$(06.1f", "-1.5 -01.5 (1.5) (01.5)");
        Check.decimalPrints("-1.5", "%08.1e %1$09.1e %1$(010.1E", "-1.5e+00 -01.5e+00 (01.5E+00)");
        Check.decimalPrints("1.5", "%03.2g %1$04.2g %1$+05.2G %1$#04.0f", "1.5 01.5 +01.5 002.");
        Check.wholePrints(32, 12L, "%04096d", "0".repeat(4094) + "12");
        Check.wholePrints(32, -12L, "%(04096d", "(" + "0".repeat(4092) + "12)");
    }

    private static void widenedByBlanks() {
        DirectivePrinter x = Printers.nothings(1);
        x.symbol('k');
        Check.text(x, "");
        x.truth(true);
        Check.prints(x, "%03d|%1$04d|%1$05d|%1$06x|%1$06.1f|", "null|null| null|  null|  null|");
        Check.prints(x, "%3s|%4s|%1$5s|%1$-3s|%1$-4s|%1$-5s|", "null|   k| null|null|null|null |");
        Check.prints(x, "%2$1c|%2$2c|%2$-2c|%3$1s|%3$-1s|", "k| k|k | | |");
        Check.prints(x, "%4$3b|%4$4b|%4$5b|%4$-5b|", "true|true| true|true |");
        Check.prints(x, "%1%|%2%|%-2%|", "%| %|% |");
        Check.wholePrints(32, -12L, "%2d|%1$3d|%1$4d|%1$-4d|%1$(5d|", "-12|-12| -12|-12 | (12)|");
        Check.wholePrints(8, -1L, "%#3x|%1$#4x|%1$#5x|%1$#-5x|", "0xff|0xff| 0xff|0xff |");
        Check.decimalPrints("1.5", "%3.1f|%1$4.1f|%1$-4.1f|%1$8.1e|%1$4.2g|", "1.5| 1.5|1.5 | 1.5e+00| 1.5|");
        Check.prints(x, "%4096s", " ".repeat(4092) + "null");
        Check.prints(x, "%-4096s", "null" + " ".repeat(4092));
    }

    private static void largeLetters() {
        DirectivePrinter x = Printers.texts("`az{ @AZ[ \u00e0\u00e9\u00ff\u00df\u00b5 09");
        Check.prints(x, "%S", "`AZ{ @AZ[ \u00e0\u00e9\u00ff\u00df\u00b5 09");
        Check.prints(x, "%s", "`az{ @AZ[ \u00e0\u00e9\u00ff\u00df\u00b5 09");
        Check.prints(x, "ab%1$.2Scd%1$.2s%1$B%1$b", "ab`Acd`aTRUEtrue");
        DirectivePrinter y = new DirectivePrinter();
        for (char c : "az`{AZ@[\u00e9".toCharArray()) {
            y.symbol(c);
        }
        Check.prints(y, "%C%C%C%C%C%C%C%C%C", "AZ`{AZ@[\u00e9");
        Check.wholePrints(32, 0xABCDEFL, "%X %1$#X %1$x", "ABCDEF 0XABCDEF abcdef");
        Check.decimalPrints("1", "%.0E %1$.0e %1$.1G", "1E+00 1e+00 1");
        Check.decimalPrints("10", "%.1G %1$.1g", "1E+01 1e+01");
    }
}
