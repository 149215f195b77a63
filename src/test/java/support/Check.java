import java.nio.charset.StandardCharsets;

/** What the tests share: asking a printer in texts, and counting the answers that are not due. */
final class Check {
    private static int asked = 0;
    private static int wrong = 0;
    private static String test = "";

    private Check() {
    }

    static void due(String call, Object got, Object want) {
        asked++;
        if (!got.equals(want)) {
            wrong++;
            if (wrong <= 50) {
                System.out.println(test + call + " answered " + shown(got) + ", due is " + shown(want));
            }
        }
    }

    /** Names the test before each answer that is not due; a test that looks at none proves nothing. */
    static void within(String name, Runnable body) {
        int before = asked;
        test = name + ": ";
        try {
            body.run();
        } catch (RuntimeException e) {
            due("a call that must not throw", e, "an answer");
        }
        test = "";
        due(name + " looks at answers", asked > before, true);
    }

    /** A call that may throw; Java's own functional types don't let it be told shortly. */
    interface Call {
        int make();
    }

    static void throwing(String call, Class<? extends RuntimeException> due, Call made) {
        Object got;
        try {
            got = made.make();
        } catch (RuntimeException e) {
            got = e.getClass();
        }
        due(call, got, due);
    }

    /** Sets the format, by as few writes as it takes; answers what the last of them did. */
    static int format(DirectivePrinter printer, String format) {
        printer.wipe();
        return append(printer, format);
    }

    static int append(DirectivePrinter printer, String format) {
        byte[] bytes = format.getBytes(StandardCharsets.ISO_8859_1);
        int answer = 0;
        for (int from = 0; from < bytes.length; from += 8) {
            int n = Math.min(8, bytes.length - from);
            long packed = 0;
            for (int i = n - 1; i >= 0; i--) {
                packed = packed << 8 | bytes[from + i] & 255;
            }
            answer = printer.write(n, packed);
        }
        return answer;
    }

    /** A text, which is the argument behind those that the printer has. */
    static void text(DirectivePrinter printer, String text) {
        format(printer, text);
        printer.text();
    }

    /** Prints by a format, and says what came of it: a text in quotes, or a fault and its place. */
    static String outcome(DirectivePrinter printer, String format) {
        format(printer, format);
        return outcome(printer);
    }

    static String outcome(DirectivePrinter printer) {
        int length = printer.print();
        String state = printer.fault() + "@" + printer.place();
        String text = printedText(printer);
        if (length == DirectivePrinter.NONE) {
            return text.isEmpty() ? state : state + " but printed " + text;
        }
        if (length != text.length() || !state.equals("0@-1")) {
            return "\"" + text + "\" but answered " + length + ", " + state;
        }
        return "\"" + text + "\"";
    }

    static String printedText(DirectivePrinter printer) {
        StringBuilder text = new StringBuilder();
        int i = 0;
        for (int c = printer.printed(0); c != DirectivePrinter.NONE; c = printer.printed(i)) {
            text.append((char) c);
            i++;
        }
        return text.toString();
    }

    static void prints(DirectivePrinter printer, String format, String want) {
        due("print() by " + shown(format), outcome(printer, format), "\"" + want + "\"");
    }

    /** No fault is met, whatever is printed. */
    static void printsSomething(DirectivePrinter printer, String format) {
        due("print() by " + shown(format), outcome(printer, format).matches("(?s)\".*\"") ? "a text" : "none", "a text");
    }

    static void wholePrints(int bits, long value, String format, String want) {
        due("whole(" + bits + ", " + value + ") by " + shown(format),
                outcome(Printers.wholes(bits, value), format), "\"" + want + "\"");
    }

    /** The decimal as it is written: 1.50 has the scale 2. */
    static void decimalPrints(String written, String format, String want) {
        due("the decimal " + written + " by " + shown(format),
                outcome(Printers.decimals(written), format), "\"" + want + "\"");
    }

    static void faults(DirectivePrinter printer, String format, int fault, int place) {
        due("print() by " + shown(format), outcome(printer, format), fault + "@" + place);
    }

    private static String shown(Object thing) {
        String text = String.valueOf(thing);
        return text.length() <= 200 ? text : text.substring(0, 200) + ".. (" + text.length() + ")";
    }

    static void end() {
        System.out.println(asked + " answers looked at, " + wrong + " not as due");
        if (wrong != 0 || asked == 0) {
            System.exit(1);
        }
    }
}
