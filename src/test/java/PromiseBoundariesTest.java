/** The boundary cases that the sentences under the promises' own headings name, one test for each sentence. */
public final class PromiseBoundariesTest {
    private static final int NONE = DirectivePrinter.NONE;
    private static final int LOWEST = Integer.MIN_VALUE;
    private static final int HIGHEST = Integer.MAX_VALUE;

    public static void main(String[] args) {
        Sentence.ofWhatItIs("An object is used for at most 512 calls after it has been made; what later calls answer is"
                + " free.", PromiseBoundariesTest::last512thCall);
        formatSentences();
        argumentSentences();
        printSentences();
        Check.end();
    }

    private static void formatSentences() {
        Sentence.ofPromise(1, "No arguments, an empty format, nothing printed.", PromiseBoundariesTest::newObject);
        Sentence.ofPromise(2, "The n lowest bytes of a long, the lowest first, come behind the format, as characters.",
                PromiseBoundariesTest::lowestBytes);
        Sentence.ofPromise(2, "Answers how many it has then; NONE, adding none, when there would be more than 256.",
                PromiseBoundariesTest::fullFormat);
        Sentence.ofPromise(2, "IllegalArgumentException: n is not 1 .. 8.", PromiseBoundariesTest::wrongN);
        Sentence.ofPromise(3, "The format is empty then.", PromiseBoundariesTest::wipedFormat);
        Sentence.ofPromise(3, "Answers how many characters it had.", PromiseBoundariesTest::charactersWiped);
    }

    private static void argumentSentences() {
        Sentence.ofPromise(4, "No arguments any more.", PromiseBoundariesTest::noArgumentsAnyMore);
        Sentence.ofPromise(4, "Answers how many there were.", PromiseBoundariesTest::argumentsCleared);
        Sentence.ofPromise(5, "One more argument, nothing: how many there are then; NONE when there are 9, here and"
                + " below (looked at behind what throws; the format stays then).", PromiseBoundariesTest::tenthNothing);
        Sentence.ofPromise(6, "One more argument, a truth.", PromiseBoundariesTest::truths);
        Sentence.ofPromise(7, "One more argument, a character.", PromiseBoundariesTest::characters);
        Sentence.ofPromise(7, "IllegalArgumentException: code is not 0 .. 255.", PromiseBoundariesTest::wrongCodes);
        Sentence.ofPromise(8, "One more argument, a whole number: that of the so many lowest bits of a long, with a"
                + " sign.", PromiseBoundariesTest::lowestBits);
        Sentence.ofPromise(8, "IllegalArgumentException: bits is not 8, 16, 32 or 64.",
                PromiseBoundariesTest::wrongBits);
        Sentence.ofPromise(9, "One more argument, a text: the format, which is empty then.",
                PromiseBoundariesTest::texts);
        Sentence.ofPromise(9, "IllegalStateException: the format has more than 64 characters.",
                PromiseBoundariesTest::longTexts);
        Sentence.ofPromise(10, "One more argument, a decimal.", PromiseBoundariesTest::decimals);
        Sentence.ofPromise(10, "IllegalArgumentException: scale is not 0 .. 40.", PromiseBoundariesTest::wrongScales);
    }

    private static void printSentences() {
        Sentence.ofPromise(11, "Prints by the format and the arguments, which stay: how many characters were printed;"
                + " NONE when a directive is at fault: then nothing is what was printed last.",
                PromiseBoundariesTest::prints);
        Sentence.ofPromise(12, "Character i of what was printed last; NONE when there is none.",
                PromiseBoundariesTest::printedCharacters);
        Sentence.ofPromise(13, "The fault that the last print() met, 1 .. 12; 0 when it met none, or there was none.",
                PromiseBoundariesTest::lastFault);
        Sentence.ofPromise(14, "The place in the format at which that stood (the % of a directive) which was at fault;"
                + " NONE when there was none.", PromiseBoundariesTest::lastPlace);
        Sentence.ofTerms(2, "a call that throws, or answers NONE (but for print()), changes nothing.",
                PromiseBoundariesTest::refusedWrites);
        Sentence.ofTerms(5, "a call that throws, or answers NONE (but for print()), changes nothing.",
                PromiseBoundariesTest::refusedArguments);
        Sentence.ofTerms(12, "a call that throws, or answers NONE (but for print()), changes nothing.",
                PromiseBoundariesTest::askedForNone);
        Sentence.ofTerms(11, "Methods throw what their comments name; a call that throws, or answers NONE (but for"
                + " print()), changes nothing.", PromiseBoundariesTest::othersNeverThrow);
    }

    /** 9 + 1 + 248 + 1 + 252 calls stand before the one that is the last to count. */
    private static void last512thCall() {
        DirectivePrinter x = new DirectivePrinter();
        for (int i = 1; i <= 9; i++) {
            Check.due("whole(8, 7), argument " + i, x.whole(8, 7L), i);
        }
        Check.due("write(4, %09d)", x.write(4, 0x64393025L), 4);
        for (int i = 5; i <= 252; i++) {
            Check.due("write(1, x) to " + i, x.write(1, 'x'), i);
        }
        Check.due("print()", x.print(), 257);
        for (int i = 0; i < 252; i++) {
            Check.due("printed(" + i + ")", x.printed(i), (int) (i < 8 ? '0' : i == 8 ? '7' : 'x'));
        }
        Check.due("the 512th call, printed(256)", x.printed(256), (int) 'x');
    }

    private static void newObject() {
        Check.due("clear()", new DirectivePrinter().clear(), 0);
        Check.due("wipe()", new DirectivePrinter().wipe(), 0);
        DirectivePrinter x = new DirectivePrinter();
        Check.due("printed(0)", x.printed(0), NONE);
        Check.due("fault()", x.fault(), 0);
        Check.due("place()", x.place(), NONE);
        Check.due("print()", x.print(), 0);
        Check.faults(new DirectivePrinter(), "%s", 9, 0);
        Check.faults(new DirectivePrinter(), "%1$s", 9, 0);
        Check.due("the first argument", new DirectivePrinter().nothing(), 1);
        Check.due("the first character", new DirectivePrinter().write(1, 'x'), 1);
    }

    private static void lowestBytes() {
        long all = 0xFF807F4100FE8142L;
        String characters = "B\u0081\u00fe\u0000A\u007f\u0080\u00ff";
        for (int n = 1; n <= 8; n++) {
            DirectivePrinter x = new DirectivePrinter();
            Check.due("write(" + n + ", ..)", x.write(n, all), n);
            Check.due("the " + n + " lowest bytes", Check.outcome(x), "\"" + characters.substring(0, n) + "\"");
        }
        DirectivePrinter x = new DirectivePrinter();
        x.write(1, 'a');
        x.write(8, -1L);
        x.write(2, 0x6362L);
        Check.due("one behind the other", Check.outcome(x), "\"a" + "\u00ff".repeat(8) + "bc\"");
    }

    private static void fullFormat() {
        for (int n = 1; n <= 8; n++) {
            DirectivePrinter x = new DirectivePrinter();
            Check.append(x, "y".repeat(256 - n));
            Check.due("write(" + n + ", ..) to 256", x.write(n, 0x7878787878787878L), 256);
            Check.due("256 and none more", x.write(1, 'z'), NONE);
            Check.due("256 and no " + n + " more", x.write(n, 'z'), NONE);
            Check.due("none is added", Check.outcome(x), "\"" + "y".repeat(256 - n) + "x".repeat(n) + "\"");

            DirectivePrinter z = new DirectivePrinter();
            Check.append(z, "y".repeat(257 - n));
            Check.due("write(" + n + ", ..) to 257", z.write(n, 0x7878787878787878L), NONE);
            Check.due("not even a part is added", Check.outcome(z), "\"" + "y".repeat(257 - n) + "\"");
        }
    }

    private static void wrongN() {
        DirectivePrinter x = new DirectivePrinter();
        DirectivePrinter full = new DirectivePrinter();
        Check.append(full, "y".repeat(256));
        for (int n : new int[] {0, 9, -1, -8, 16, 256, 257, LOWEST, LOWEST + 1, HIGHEST}) {
            Check.throwing("write(" + n + ", 0)", IllegalArgumentException.class, () -> x.write(n, 0L));
            Check.throwing("write(" + n + ", 0) when full", IllegalArgumentException.class, () -> full.write(n, 0L));
        }
        Check.due("write(1, 0)", x.write(1, 0L), 1);
        Check.due("write(8, 0)", x.write(8, 0L), 9);
    }

    private static void wipedFormat() {
        DirectivePrinter x = new DirectivePrinter();
        Check.append(x, "%".repeat(255));
        x.wipe();
        Check.due("print() then", x.print(), 0);
        x.wipe();
        Check.due("print() after wipe() of none", x.print(), 0);
        for (int i = 1; i <= 32; i++) {
            Check.due("there is room for 256 again", x.write(8, 0L), 8 * i);
        }
        x.wipe();
        Check.due("an empty text", x.text(), 1);
        Check.prints(x, "[%s]", "[]");
    }

    private static void charactersWiped() {
        DirectivePrinter x = new DirectivePrinter();
        Check.due("wipe() of none", x.wipe(), 0);
        Check.append(x, "a");
        Check.due("wipe() of 1", x.wipe(), 1);
        Check.due("wipe() again", x.wipe(), 0);
        Check.append(x, "a".repeat(256));
        Check.due("wipe() of 256", x.wipe(), 256);
        Check.append(x, "abc");
        x.text();
        Check.due("wipe() behind text()", x.wipe(), 0);
    }

    private static void noArgumentsAnyMore() {
        DirectivePrinter x = Printers.allKinds();
        x.clear();
        for (int number = 1; number <= 9; number++) {
            Check.faults(x, "%" + number + "$s", 9, 0);
        }
        Check.faults(x, "%s", 9, 0);
        Check.due("the first one again", x.truth(true), 1);
        Check.prints(x, "%s", "true");
        Check.faults(x, "%2$s", 9, 0);
        x.clear();
        Check.text(x, "");
        Check.prints(x, "[%s]", "[]");
    }

    private static void argumentsCleared() {
        DirectivePrinter x = new DirectivePrinter();
        Check.due("clear() of none", x.clear(), 0);
        for (int n = 1; n <= 9; n++) {
            for (int i = 0; i < n; i++) {
                x.nothing();
            }
            Check.due("clear() of " + n, x.clear(), n);
            Check.due("clear() again", x.clear(), 0);
        }
        for (int i = 0; i < 12; i++) {
            x.nothing();
        }
        Check.due("clear() after 12 calls", x.clear(), 9);
    }

    private static void tenthNothing() {
        DirectivePrinter x = new DirectivePrinter();
        for (int i = 1; i <= 9; i++) {
            Check.due("nothing() number " + i, x.nothing(), i);
        }
        Check.append(x, "[%9$s]");
        Check.due("the tenth nothing()", x.nothing(), NONE);
        Check.due("the tenth truth(..)", x.truth(true), NONE);
        Check.due("the tenth symbol(65)", x.symbol(65), NONE);
        Check.due("the tenth whole(8, 1)", x.whole(8, 1L), NONE);
        Check.due("the tenth text()", x.text(), NONE);
        Check.due("the tenth decimal(1, 1)", x.decimal(1L, 1), NONE);
        Check.throwing("the tenth symbol(256)", IllegalArgumentException.class, () -> x.symbol(256));
        Check.throwing("the tenth whole(9, 1)", IllegalArgumentException.class, () -> x.whole(9, 1L));
        Check.throwing("the tenth decimal(1, 41)", IllegalArgumentException.class, () -> x.decimal(1L, 41));
        Check.due("the format stays then", Check.outcome(x), "\"[null]\"");
        Check.append(x, "y".repeat(59));
        Check.throwing("the tenth text() of 65", IllegalStateException.class, x::text);
        Check.due("there are 9", x.clear(), 9);
    }

    private static void truths() {
        DirectivePrinter x = new DirectivePrinter();
        Check.due("truth(false)", x.truth(false), 1);
        Check.due("truth(true)", x.truth(true), 2);
        Check.prints(x, "%s%s", "falsetrue");
        DirectivePrinter full = Printers.nothings(8);
        Check.due("the ninth", full.truth(true), 9);
        Check.due("the tenth", full.truth(false), NONE);
        Check.prints(full, "%9$s", "true");
    }

    private static void characters() {
        DirectivePrinter x = new DirectivePrinter();
        for (int code = 0; code <= 255; code++) {
            Check.due("symbol(" + code + ")", x.symbol(code), 1);
            Check.prints(x, "%c", String.valueOf((char) code));
            x.clear();
        }
        DirectivePrinter full = Printers.nothings(8);
        Check.due("the ninth", full.symbol('9'), 9);
        Check.due("the tenth", full.symbol('x'), NONE);
        Check.prints(full, "%9$s", "9");
    }

    private static void wrongCodes() {
        DirectivePrinter x = new DirectivePrinter();
        for (int code : new int[] {-1, 256, -255, 65536, 65601, LOWEST, HIGHEST}) {
            Check.throwing("symbol(" + code + ")", IllegalArgumentException.class, () -> x.symbol(code));
        }
        Check.due("symbol(0)", x.symbol(0), 1);
        Check.due("symbol(255)", x.symbol(255), 2);
    }

    private static void lowestBits() {
        for (int bits : new int[] {8, 16, 32, 64}) {
            long highest = Long.MAX_VALUE >> 64 - bits;
            long lowest = -highest - 1;
            Check.wholePrints(bits, highest, "%d", String.valueOf(highest));
            Check.wholePrints(bits, lowest, "%d", String.valueOf(lowest));
            Check.wholePrints(bits, highest + 1, "%d", String.valueOf(lowest));
            Check.wholePrints(bits, lowest - 1, "%d", String.valueOf(highest));
            Check.wholePrints(bits, -1L, "%d", "-1");
            Check.wholePrints(bits, 0L, "%d", "0");
        }
        Check.wholePrints(8, 0xFFL, "%d", "-1");
        Check.wholePrints(8, 0x100L, "%d", "0");
        Check.wholePrints(16, 0xFFFFL, "%d", "-1");
        Check.wholePrints(16, 0x10000L, "%d", "0");
        Check.wholePrints(32, 0xFFFFFFFFL, "%d", "-1");
        Check.wholePrints(32, 0x100000000L, "%d", "0");
        Check.wholePrints(8, Long.MIN_VALUE, "%d", "0");
        Check.wholePrints(32, Long.MAX_VALUE, "%d", "-1");
        DirectivePrinter full = Printers.nothings(8);
        Check.due("the ninth", full.whole(8, 9L), 9);
        Check.due("the tenth", full.whole(64, 10L), NONE);
        Check.prints(full, "%9$s", "9");
    }

    private static void wrongBits() {
        DirectivePrinter x = new DirectivePrinter();
        for (int bits = -70; bits <= 200; bits++) {
            int tried = bits;
            if (bits != 8 && bits != 16 && bits != 32 && bits != 64) {
                Check.throwing("whole(" + bits + ", 1)", IllegalArgumentException.class, () -> x.whole(tried, 1L));
            }
        }
        Check.throwing("whole(lowest, 1)", IllegalArgumentException.class, () -> x.whole(LOWEST, 1L));
        Check.throwing("whole(highest, 1)", IllegalArgumentException.class, () -> x.whole(HIGHEST, 1L));
        Check.throwing("whole(8 + 2 to the 30, 1)", IllegalArgumentException.class, () -> x.whole(8 | 1 << 30, 1L));
        Check.due("none of them is added", x.clear(), 0);
    }

    private static void texts() {
        DirectivePrinter x = new DirectivePrinter();
        Check.due("text() of none", x.text(), 1);
        Check.append(x, "%q%");
        Check.due("text() of directives at fault", x.text(), 2);
        Check.due("the format is empty then", x.wipe(), 0);
        Check.append(x, "c");
        x.text();
        Check.due("print() of the empty format", x.print(), 0);
        Check.prints(x, "[%s%s%s]", "[%q%c]");
        Check.prints(x, "%3$s%2$s%1$s", "c%q%");
        x.clear();
        Check.text(x, "d");
        Check.text(x, "e");
        Check.prints(x, "[%s%s]", "[de]");
        DirectivePrinter full = Printers.nothings(8);
        Check.append(full, "ninth");
        Check.due("the ninth", full.text(), 9);
        Check.append(full, "%9$s");
        Check.due("the tenth", full.text(), NONE);
        Check.due("the ninth stays", Check.outcome(full), "\"ninth\"");
    }

    private static void longTexts() {
        String most = "abcdefgh".repeat(7) + "ABCDEFGH";
        DirectivePrinter x = new DirectivePrinter();
        for (int length : new int[] {65, 66, 128, 255, 256}) {
            Check.format(x, "y".repeat(length));
            Check.throwing("text() of " + length, IllegalStateException.class, x::text);
        }
        Check.due("the format of 256 stays", x.wipe(), 256);
        Check.append(x, most);
        Check.due("text() of 64", x.text(), 1);
        Check.append(x, most.substring(1));
        Check.due("text() of 63", x.text(), 2);
        Check.prints(x, "%s%n%s", most + "\n" + most.substring(1));
    }

    private static void decimals() {
        Check.decimalPrints("0", "%s", "0");
        Check.decimalPrints("9223372036854775807", "%s", "9223372036854775807");
        Check.decimalPrints("-9223372036854775808", "%s", "-9223372036854775808");
        DirectivePrinter full = Printers.nothings(8);
        Check.due("the ninth", full.decimal(9L, 1), 9);
        Check.due("the tenth", full.decimal(10L, 0), NONE);
        Check.prints(full, "%9$s", "0.9");
    }

    private static void wrongScales() {
        DirectivePrinter x = new DirectivePrinter();
        for (int scale : new int[] {-1, 41, -40, 42, 255, LOWEST, HIGHEST}) {
            Check.throwing("decimal(1, " + scale + ")", IllegalArgumentException.class, () -> x.decimal(1L, scale));
        }
        Check.due("decimal(1, 0)", x.decimal(1L, 0), 1);
        Check.due("decimal(1, 40)", x.decimal(1L, 40), 2);
        Check.prints(x, "%s %s", "1 0." + "0".repeat(39) + "1");
    }

    private static void prints() {
        DirectivePrinter x = new DirectivePrinter();
        Check.due("print() of an empty format", x.print(), 0);
        x.whole(32, 5L);
        Check.format(x, "%d%%");
        Check.due("print()", Check.outcome(x), "\"5%\"");
        Check.due("print() again: format and arguments stay", Check.outcome(x), "\"5%\"");
        Check.append(x, "%d");
        Check.due("print() at fault", x.print(), NONE);
        Check.due("nothing is what was printed last", x.printed(0), NONE);
        Check.due("print() at fault again: format and arguments stay", Check.outcome(x), "9@4");
        x.whole(32, 6L);
        Check.due("one argument more", Check.outcome(x), "\"5%6\"");
        Check.due("the format is as it was", x.wipe(), 6);
        Check.due("the arguments are as they were", x.clear(), 2);
        x.nothing();
        Check.prints(x, "%4096s", " ".repeat(4092) + "null");
        Check.faults(x, "%4096s%n", 12, 6);
        Check.due("nothing of 4096", x.printed(0), NONE);
        Check.due("nothing behind 4096", x.printed(4096), NONE);
    }

    private static void printedCharacters() {
        DirectivePrinter x = new DirectivePrinter();
        Check.due("printed(0) before print()", x.printed(0), NONE);
        Check.append(x, "\u0000b\u00ff");
        Check.due("printed(0) of what is not printed yet", x.printed(0), NONE);
        Check.due("print()", x.print(), 3);
        Check.due("printed(0)", x.printed(0), 0);
        Check.due("printed(1)", x.printed(1), (int) 'b');
        Check.due("printed(2), the last", x.printed(2), 255);
        for (int i : new int[] {3, -1, 4, 256, 4096, -4096, LOWEST, HIGHEST}) {
            Check.due("printed(" + i + ")", x.printed(i), NONE);
        }
        x.wipe();
        Check.due("printed(2) after wipe()", x.printed(2), 255);
        Check.append(x, "c");
        Check.due("printed(0) before the next print()", x.printed(0), 0);
        Check.due("print() of fewer", x.print(), 1);
        Check.due("printed(0) then", x.printed(0), (int) 'c');
        Check.due("printed(1), which was there before", x.printed(1), NONE);
        Check.prints(x, "%4096%", " ".repeat(4095) + "%");
        Check.due("printed(4095), the last of 4096", x.printed(4095), (int) '%');
        Check.due("printed(4096)", x.printed(4096), NONE);
    }

    private static void lastFault() {
        DirectivePrinter x = new DirectivePrinter();
        x.truth(true);
        x.whole(32, -1L);
        String[] atFault = {"%", "%q", "%--5s", "%-n", "%.1c", "%#s", "%-s", "%-05d", "%9$s", "%d", "%2$c", "%4097s"};
        Check.due("fault() before any print()", x.fault(), 0);
        for (int i = 0; i < atFault.length; i++) {
            Check.format(x, atFault[i]);
            Check.due("fault() before print()", x.fault(), 0);
            Check.due("print()", x.print(), NONE);
            Check.due("fault() of " + atFault[i], x.fault(), i + 1);
            x.wipe();
            Check.due("fault() stays", x.fault(), i + 1);
            x.print();
            Check.due("fault() after a print() that met none", x.fault(), 0);
        }
    }

    private static void lastPlace() {
        DirectivePrinter x = new DirectivePrinter();
        Check.due("place() before any print()", x.place(), NONE);
        Check.faults(x, "%q", 2, 0);
        x.wipe();
        Check.due("place() stays", x.place(), 0);
        x.print();
        Check.due("place() after a print() that met none", x.place(), NONE);
        Check.faults(x, "y".repeat(255) + "%", 1, 255);
        Check.faults(x, "%%".repeat(127) + "%q", 2, 254);
        Check.faults(x, "%5%%1$-005d", 3, 3);
        Check.faults(x, "%4090%1234567", 12, 12);
        Check.faults(x, "%4096%" + "%%", 12, 6);
        Check.faults(x, "%4095%" + "y".repeat(250), 12, 7);
        Check.faults(x, "%3847%" + "y".repeat(250), 12, 255);
        Check.prints(x, "%3846%" + "y".repeat(250), " ".repeat(3845) + "%" + "y".repeat(250));
        Check.due("place() of none", x.place(), NONE);
    }

    /** 9 arguments, 256 characters, and a print() that met a fault. */
    private static DirectivePrinter fullAndAtFault() {
        DirectivePrinter x = Printers.allKinds();
        Check.append(x, "y".repeat(252) + "%2$d");
        x.print();
        return x;
    }

    /** 9 arguments, 256 characters, and a print() that met none. */
    private static DirectivePrinter fullAndPrinted() {
        DirectivePrinter x = Printers.allKinds();
        Check.append(x, "y".repeat(250) + "%s%8$s");
        x.print();
        return x;
    }

    private static void allStaysPrinted(String call, DirectivePrinter x) {
        String all = "y".repeat(250) + "nullt";
        Check.due("fault() behind " + call, x.fault(), 0);
        Check.due("place() behind " + call, x.place(), NONE);
        Check.due("what was printed behind " + call, Check.printedText(x), all);
        Check.due("format and arguments behind " + call, Check.outcome(x), "\"" + all + "\"");
    }

    private static void allStaysAtFault(String call, DirectivePrinter x) {
        Check.due("fault() behind " + call, x.fault(), 10);
        Check.due("place() behind " + call, x.place(), 252);
        Check.due("what was printed behind " + call, Check.printedText(x), "");
        Check.due("format and arguments behind " + call, Check.outcome(x), "10@252");
    }

    private static void refusedWrites() {
        DirectivePrinter x = fullAndPrinted();
        DirectivePrinter y = fullAndAtFault();
        for (DirectivePrinter each : new DirectivePrinter[] {x, y}) {
            Check.due("write(1, 0) when full", each.write(1, 0L), NONE);
            Check.due("write(8, 0) when full", each.write(8, 0L), NONE);
            Check.throwing("write(0, 0)", IllegalArgumentException.class, () -> each.write(0, 0L));
            Check.throwing("write(9, 0)", IllegalArgumentException.class, () -> each.write(9, 0L));
        }
        allStaysPrinted("write(..)", x);
        allStaysAtFault("write(..)", y);
        Check.due("wipe() then", x.wipe(), 256);
    }

    private static void refusedArguments() {
        DirectivePrinter x = fullAndPrinted();
        DirectivePrinter y = fullAndAtFault();
        for (DirectivePrinter each : new DirectivePrinter[] {x, y}) {
            Check.due("nothing()", each.nothing(), NONE);
            Check.due("truth(true)", each.truth(true), NONE);
            Check.due("symbol(65)", each.symbol(65), NONE);
            Check.due("whole(8, 1)", each.whole(8, 1L), NONE);
            Check.due("decimal(1, 1)", each.decimal(1L, 1), NONE);
            Check.throwing("symbol(-1)", IllegalArgumentException.class, () -> each.symbol(-1));
            Check.throwing("whole(0, 1)", IllegalArgumentException.class, () -> each.whole(0, 1L));
            Check.throwing("decimal(1, -1)", IllegalArgumentException.class, () -> each.decimal(1L, -1));
            Check.throwing("text() of 256", IllegalStateException.class, each::text);
        }
        allStaysPrinted("a tenth argument", x);
        allStaysAtFault("a tenth argument", y);
        Check.due("clear() then", x.clear(), 9);

        DirectivePrinter z = new DirectivePrinter();
        Check.throwing("symbol(256)", IllegalArgumentException.class, () -> z.symbol(256));
        Check.throwing("whole(7, 1)", IllegalArgumentException.class, () -> z.whole(7, 1L));
        Check.throwing("decimal(1, 41)", IllegalArgumentException.class, () -> z.decimal(1L, 41));
        Check.due("none is added", z.clear(), 0);
    }

    private static void askedForNone() {
        DirectivePrinter x = fullAndPrinted();
        DirectivePrinter y = fullAndAtFault();
        for (DirectivePrinter each : new DirectivePrinter[] {x, y}) {
            Check.due("printed(-1)", each.printed(-1), NONE);
            Check.due("printed(highest)", each.printed(HIGHEST), NONE);
        }
        Check.due("place()", x.place(), NONE);
        allStaysPrinted("printed(-1), place()", x);
        allStaysAtFault("printed(-1)", y);
    }

    /** The methods whose comments name nothing to throw, on objects that are empty, full, and at fault. */
    private static void othersNeverThrow() {
        neverThrows(new DirectivePrinter(), 0, 0);
        neverThrows(fullAndPrinted(), 9, 256);
        neverThrows(fullAndAtFault(), 9, 256);
    }

    private static void neverThrows(DirectivePrinter x, int arguments, int characters) {
        Check.due("printed(lowest)", x.printed(LOWEST), NONE);
        Check.due("nothing()", x.nothing(), arguments == 9 ? NONE : 1);
        Check.due("truth(false)", x.truth(false), arguments == 9 ? NONE : 2);
        Check.due("clear()", x.clear(), Math.max(arguments, 2));
        Check.due("clear() again", x.clear(), 0);
        Check.due("wipe()", x.wipe(), characters);
        Check.due("wipe() again", x.wipe(), 0);
        Check.due("print()", x.print(), 0);
        Check.due("fault()", x.fault(), 0);
        Check.due("place()", x.place(), NONE);
    }
}
