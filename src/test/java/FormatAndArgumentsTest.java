/** Promises 1 to 10: a new object, its format, and its arguments. */
public final class FormatAndArgumentsTest {
    public static void main(String[] args) {
        newObject();
        write();
        wipe();
        clear();
        countOfArguments();
        truth();
        symbol();
        whole();
        text();
        decimal();
        fullOfArguments();
        Check.end();
    }

    private static void newObject() {
        Check.due("wipe() of a new object", new DirectivePrinter().wipe(), 0);
        Check.due("clear() of a new object", new DirectivePrinter().clear(), 0);
        DirectivePrinter x = new DirectivePrinter();
        Check.due("printed(0) of a new object", x.printed(0), -1);
        Check.due("fault() of a new object", x.fault(), 0);
        Check.due("place() of a new object", x.place(), -1);
        Check.due("print() of a new object", x.print(), 0);
        Check.faults(x, "%s", 9, 0);
        Check.prints(new DirectivePrinter(), "", "");
    }

    private static void write() {
        DirectivePrinter x = new DirectivePrinter();
        Check.due("write of 3 bytes", x.write(3, 0x44434241L), 3);
        Check.due("the lowest first, and three alone", Check.outcome(x), "\"ABC\"");
        Check.due("write of 8 bytes", x.write(8, 0xFF30313233343536L), 11);
        Check.due("all eight", Check.outcome(x), "\"ABC6543210\u00ff\"");
        Check.due("write of byte 0", x.write(1, 0x4100L), 12);
        Check.due("byte 0 is a character", Check.outcome(x), "\"ABC6543210\u00ff\u0000\"");
        for (int n : new int[] {0, -1, 9, 64, Integer.MIN_VALUE, Integer.MAX_VALUE}) {
            Check.throwing("write(" + n + ", 0)", IllegalArgumentException.class, () -> x.write(n, 0L));
        }
        Check.due("a write that throws adds none", x.wipe(), 12);

        for (int i = 1; i <= 31; i++) {
            Check.due("write up to 248", x.write(8, 0x7878787878787878L), 8 * i);
        }
        Check.due("write to 255", x.write(7, 0x78787878787878L), 255);
        Check.due("write to 257", x.write(2, 0x7979L), -1);
        Check.due("write to 263", x.write(8, 0x7979L), -1);
        Check.due("NONE adds none", Check.outcome(x), "\"" + "x".repeat(255) + "\"");
        Check.due("write to 256", x.write(1, 0x7AL), 256);
        Check.due("write to 257 from 256", x.write(1, 0x79L), -1);
        Check.throwing("write(9, 0) when full", IllegalArgumentException.class, () -> x.write(9, 0L));
        Check.due("256 stay", Check.outcome(x), "\"" + "x".repeat(255) + "z\"");
        Check.due("wipe() of 256", x.wipe(), 256);
    }

    private static void wipe() {
        DirectivePrinter x = new DirectivePrinter();
        x.nothing();
        Check.prints(x, "[%s]", "[null]");
        Check.due("wipe()", x.wipe(), 4);
        Check.due("what was printed stays", Check.printedText(x), "[null]");
        Check.due("wipe() again", x.wipe(), 0);
        Check.due("print() of an empty format", x.print(), 0);
        Check.due("write after wipe()", Check.append(x, "%b"), 2);
        Check.due("arguments stay", Check.outcome(x), "\"false\"");
    }

    private static void clear() {
        DirectivePrinter x = new DirectivePrinter();
        x.nothing();
        x.truth(true);
        Check.format(x, "%s");
        Check.due("clear()", x.clear(), 2);
        Check.due("clear() again", x.clear(), 0);
        Check.due("the format stays, the arguments do not", Check.outcome(x), "9@0");
        Check.due("numbers start again", x.symbol(65), 1);
        Check.due("the new argument 1", Check.outcome(x), "\"A\"");
        Check.due("clear() of one", x.clear(), 1);

        Check.text(x, "a longer text");
        x.clear();
        Check.text(x, "ab");
        Check.prints(x, "%s", "ab");
    }

    private static void countOfArguments() {
        DirectivePrinter x = new DirectivePrinter();
        Check.due("nothing()", x.nothing(), 1);
        Check.due("truth(true)", x.truth(true), 2);
        Check.due("symbol(66)", x.symbol(66), 3);
        Check.due("whole(8, 5)", x.whole(8, 5L), 4);
        Check.due("text()", x.text(), 5);
        Check.due("decimal(7, 1)", x.decimal(7L, 1), 6);
        Check.prints(x, "%s,%s,%s,%s,%s,%s", "null,true,B,5,,0.7");
        Check.due("print() leaves the arguments", x.nothing(), 7);
    }

    private static void truth() {
        DirectivePrinter x = new DirectivePrinter();
        x.truth(true);
        x.truth(false);
        Check.prints(x, "%s %s %1$b %2$b", "true false true false");
    }

    private static void symbol() {
        DirectivePrinter x = new DirectivePrinter();
        Check.throwing("symbol(-1)", IllegalArgumentException.class, () -> x.symbol(-1));
        Check.throwing("symbol(256)", IllegalArgumentException.class, () -> x.symbol(256));
        Check.throwing("symbol(lowest)", IllegalArgumentException.class, () -> x.symbol(Integer.MIN_VALUE));
        Check.due("symbol(0)", x.symbol(0), 1);
        Check.due("symbol(255)", x.symbol(255), 2);
        Check.prints(x, "%c%c", "\u0000\u00ff");
    }

    private static void whole() {
        DirectivePrinter x = new DirectivePrinter();
        for (int bits : new int[] {0, 1, 7, 24, 48, 63, 65, 128, -8, -64, Integer.MIN_VALUE}) {
            Check.throwing("whole(" + bits + ", 1)", IllegalArgumentException.class, () -> x.whole(bits, 1L));
        }
        Check.due("whole(8, 0x17F)", x.whole(8, 0x17FL), 1);
        x.whole(8, 0x80L);
        x.whole(16, 0x18000L);
        x.whole(16, 0xF7FFFL);
        x.whole(32, 0x80000000L);
        x.whole(32, 0x17FFFFFFFL);
        x.whole(64, Long.MIN_VALUE);
        x.whole(64, Long.MAX_VALUE);
        Check.prints(x, "%d %d %d %d", "127 -128 -32768 32767");
        Check.prints(x, "%5$d %6$d", "-2147483648 2147483647");
        Check.prints(x, "%7$d %8$d", "-9223372036854775808 9223372036854775807");
    }

    private static void text() {
        DirectivePrinter x = new DirectivePrinter();
        String most = "0123456789abcdef".repeat(4);
        Check.format(x, most + "!");
        Check.throwing("text() of 65", IllegalStateException.class, x::text);
        Check.due("a text() that throws leaves the format", x.wipe(), 65);
        Check.due("a text() that throws adds none", x.clear(), 0);
        Check.format(x, most);
        Check.due("text() of 64", x.text(), 1);
        Check.due("the format is empty then", x.wipe(), 0);
        Check.due("text() of none", x.text(), 2);
        Check.format(x, "%d %% \u00e9\u0000");
        Check.due("text() of directives", x.text(), 3);
        Check.prints(x, "%s|%s|%s", most + "||%d %% \u00e9\u0000");
    }

    private static void decimal() {
        DirectivePrinter x = new DirectivePrinter();
        for (int scale : new int[] {-1, 41, Integer.MIN_VALUE, Integer.MAX_VALUE}) {
            Check.throwing("decimal(1, " + scale + ")", IllegalArgumentException.class, () -> x.decimal(1L, scale));
        }
        Check.due("decimal(5, 0)", x.decimal(5L, 0), 1);
        Check.due("decimal(-1, 40)", x.decimal(-1L, 40), 2);
        Check.due("decimal(lowest, 19)", x.decimal(Long.MIN_VALUE, 19), 3);
        Check.prints(x, "%s %s %s", "5 -0." + "0".repeat(39) + "1 -0.9223372036854775808");
    }

    private static void fullOfArguments() {
        DirectivePrinter x = new DirectivePrinter();
        for (int i = 1; i <= 9; i++) {
            Check.due("symbol " + i, x.symbol('0' + i), i);
        }
        Check.due("nothing() as the tenth", x.nothing(), -1);
        Check.due("truth(true) as the tenth", x.truth(true), -1);
        Check.due("symbol(65) as the tenth", x.symbol(65), -1);
        Check.due("whole(8, 1) as the tenth", x.whole(8, 1L), -1);
        Check.due("decimal(1, 1) as the tenth", x.decimal(1L, 1), -1);
        Check.format(x, "abc");
        Check.due("text() as the tenth", x.text(), -1);
        Check.due("the format stays then", x.wipe(), 3);
        Check.throwing("symbol(256) as the tenth", IllegalArgumentException.class, () -> x.symbol(256));
        Check.throwing("whole(9, 1) as the tenth", IllegalArgumentException.class, () -> x.whole(9, 1L));
        Check.throwing("decimal(1, 41) as the tenth", IllegalArgumentException.class, () -> x.decimal(1L, 41));
        Check.format(x, "x".repeat(65));
        Check.throwing("text() of 65 as the tenth", IllegalStateException.class, x::text);
        Check.prints(x, "%s%s%s%s%s%s%s%s%s", "123456789");
        Check.due("clear() of nine", x.clear(), 9);
        Check.due("room again", x.nothing(), 1);
    }
}
