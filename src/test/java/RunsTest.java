/** Whole runs, of all calls in any order, wrong ones among them: no call leaves behind what the document does not say. */
public final class RunsTest {
    private static final int RUNS = 3000;
    private static final int CALLS_OF_A_RUN = 512;
    private static final int LOWEST = Integer.MIN_VALUE;
    private static final int HIGHEST = Integer.MAX_VALUE;

    private final Chance chance;
    private final String run;
    /** Without such runs few prints would be at no fault, and few formats would come to be full. */
    private final boolean mild;
    private final boolean wipesSeldom;
    private final DirectivePrinter printer = new DirectivePrinter();
    private final StateModel model = new StateModel();
    private String unwritten = "";
    private int calls = 0;

    private RunsTest(int number) {
        chance = new Chance(number);
        run = "run " + number;
        mild = number % 2 == 0;
        wipesSeldom = number % 3 == 0;
    }

    public static void main(String[] args) {
        for (int number = 1; number <= RUNS; number++) {
            RunsTest test = new RunsTest(number);
            while (test.calls < CALLS_OF_A_RUN) {
                test.call();
            }
        }
        Check.end();
    }

    private void call() {
        int way = chance.below(100);
        if (way < 35) {
            writeOn();
        } else if (way < 55) {
            argument();
        } else if (way < 68) {
            due("print()", printer::print, model.print());
        } else if (way < 85) {
            printed();
        } else if (way < 89) {
            due("fault()", printer::fault, model.fault());
        } else if (way < 93) {
            due("place()", printer::place, model.place());
        } else if (way < 95) {
            write(chance.oneOf(0, -1, 9, LOWEST, HIGHEST, 257), chance.anyLong());
        } else if (way == 99) {
            due("clear()", printer::clear, model.clear());
        } else if (mayEmptyTheFormat()) {
            unwritten = "";
            due("wipe()", printer::wipe, model.wipe());
        }
    }

    private boolean mayEmptyTheFormat() {
        return !wipesSeldom || chance.below(20) == 0;
    }

    private void due(String call, Check.Call made, Object want) {
        calls++;
        Object got;
        try {
            got = made.make();
        } catch (RuntimeException e) {
            got = e.getClass();
        }
        Check.due(run + ", call " + calls + ", " + call, got, want);
    }

    /** The next characters of a format, few or many at once; what is above them in the long must not be looked at. */
    private void writeOn() {
        if (unwritten.isEmpty()) {
            unwritten = mild && chance.below(40) > 0 ? chance.mildPiece() : chance.piece();
        }
        int n = Math.min(unwritten.length(), 1 + chance.below(8));
        long packed = chance.anyLong();
        for (int i = n - 1; i >= 0; i--) {
            packed = packed << 8 | unwritten.charAt(i);
        }
        unwritten = unwritten.substring(n);
        write(n, packed);
    }

    private void write(int n, long characters) {
        due("write(" + n + ", " + characters + ")", () -> printer.write(n, characters), model.write(n, characters));
    }

    private void argument() {
        switch (chance.below(7)) {
            case 0 -> due("nothing()", printer::nothing, model.nothing());
            case 1 -> {
                boolean is = chance.truth();
                due("truth(" + is + ")", () -> printer.truth(is), model.truth(is));
            }
            case 2 -> {
                int code = chance.below(4) == 0 ? chance.oneOf(-1, 0, 255, 256, LOWEST, HIGHEST) : chance.below(256);
                due("symbol(" + code + ")", () -> printer.symbol(code), model.symbol(code));
            }
            case 3 -> {
                if (mayEmptyTheFormat()) {
                    due("text()", printer::text, model.text());
                }
            }
            case 4 -> {
                int scale = chance.below(4) == 0 ? chance.oneOf(-1, 0, 40, 41, LOWEST, HIGHEST) : chance.below(20);
                long unscaled = chance.anyLong();
                due("decimal(" + unscaled + ", " + scale + ")", () -> printer.decimal(unscaled, scale),
                        model.decimal(unscaled, scale));
            }
            default -> {
                int bits = chance.below(6) == 0 ? chance.oneOf(-8, 0, 7, 9, 24, 63, 65, 128, LOWEST, HIGHEST)
                        : chance.oneOf(8, 16, 32, 64);
                long value = chance.anyLong();
                due("whole(" + bits + ", " + value + ")", () -> printer.whole(bits, value), model.whole(bits, value));
            }
        }
    }

    private void printed() {
        int length = model.charactersPrinted();
        int i = chance.below(3) == 0 ? chance.oneOf(-1, 0, length - 1, length, 4095, 4096, LOWEST, HIGHEST)
                : chance.below(length + 1);
        due("printed(" + i + ")", () -> printer.printed(i), model.printed(i));
    }
}
