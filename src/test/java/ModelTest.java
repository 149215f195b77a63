import java.math.BigDecimal;
import java.util.ArrayList;
import java.util.List;
import java.util.Random;

/** Compares the class with the model: all flags with all conversions and kinds, then odd formats. */
public final class ModelTest {
    private static final String FLAGS = "-#+0,(< ";
    private static final String CONVERSIONS = "bBsScCdoxXfeEgG%n";
    private static final long[] LONGS = {0, 1, -1, 5, 9, 10, -49, 50, 65, 99, 100, 127, -128, 255, 256, 999, 1000, -9995,
        9999, 12345, 99995, 999995, 999999, 1000000, 1234567, -123456789, 314159265, 4294967295L, 999999999999L,
        Long.MAX_VALUE, Long.MIN_VALUE, Long.MAX_VALUE - 1, 9000000000000000000L, 999999999999999999L};
    private static final int[] BITS = {8, 16, 32, 64};

    private final Random random = new Random(20261115L);
    private final DirectivePrinter printer = new DirectivePrinter();
    private final List<Object> arguments = new ArrayList<>();

    public static void main(String[] args) {
        ModelTest test = new ModelTest();
        test.allFlags();
        test.roundings();
        test.oddFormats();
        Check.end();
    }

    private void clear() {
        printer.clear();
        arguments.clear();
    }

    private void addNothing() {
        printer.nothing();
        arguments.add(null);
    }

    private void addTruth(boolean is) {
        printer.truth(is);
        arguments.add(is);
    }

    private void addSymbol(int code) {
        printer.symbol(code);
        arguments.add((char) code);
    }

    private void addWhole(int bits, long value) {
        printer.whole(bits, value);
        long kept = bits == 8 ? (byte) value : bits == 16 ? (short) value : bits == 32 ? (int) value : value;
        arguments.add(new Model.Whole(bits, kept));
    }

    private void addText(String text) {
        Check.text(printer, text);
        arguments.add(text);
    }

    private void addDecimal(long unscaled, int scale) {
        printer.decimal(unscaled, scale);
        arguments.add(BigDecimal.valueOf(unscaled, scale));
    }

    private void compare(String format) {
        String got = Check.outcome(printer, format);
        Check.due("print() by " + format + " of " + arguments, got, Model.outcome(arguments, format));
    }

    private void allFlags() {
        String[] sizes = {"", "1", "7", "20", ".0", ".1", ".4", "9.2", "30.12"};
        for (int round = 0; round < 2; round++) {
            clear();
            addNothing();
            addTruth(round == 0);
            addSymbol(round == 0 ? 'q' : 0xE4);
            addText(round == 0 ? "" : "Some Text of azAZ");
            addWhole(8, round == 0 ? -3 : 77);
            addWhole(32, round == 0 ? -1234567 : 0);
            addWhole(64, round == 0 ? Long.MIN_VALUE : 1234567890123L);
            addDecimal(round == 0 ? -123456789L : 0L, 4);
            addDecimal(round == 0 ? Long.MIN_VALUE : 99999L, round == 0 ? 2 : 9);
            for (char conversion : CONVERSIONS.toCharArray()) {
                for (int set = 0; set < 256; set++) {
                    String flags = flagsOf(set);
                    for (String size : sizes) {
                        for (int number = 1; number <= arguments.size(); number++) {
                            String same = (set & 64) != 0 ? "%" + number + "$b" : "";
                            compare(same + "%" + number + "$" + flags + size + conversion);
                        }
                    }
                }
            }
        }
    }

    private String flagsOf(int set) {
        StringBuilder flags = new StringBuilder();
        for (int i = 0; i < FLAGS.length(); i++) {
            if ((set >> i & 1) != 0) {
                flags.insert(random.nextInt(flags.length() + 1), FLAGS.charAt(i));
            }
        }
        return flags.toString();
    }

    private void roundings() {
        for (long unscaled : LONGS) {
            for (int scale = 0; scale <= 40; scale++) {
                clear();
                addDecimal(unscaled, scale);
                compare("%s %<,f %<e %<g");
                for (int precision = 0; precision <= 44; precision += precision < 22 ? 1 : 11) {
                    compare("%." + precision + "f %<#." + precision + "e %<,." + precision + "G");
                }
            }
        }
        for (int i = 0; i < 100000; i++) {
            clear();
            addDecimal(anyLong(), random.nextInt(41));
            int precision = random.nextInt(24);
            compare("%." + precision + "f %<." + precision + "e %<." + precision + "g");
        }
    }

    private long anyLong() {
        if (random.nextInt(3) == 0) {
            return LONGS[random.nextInt(LONGS.length)];
        }
        long value = random.nextLong() >> random.nextInt(64);
        // many nines or a five at the end, where rounding is decided
        return random.nextInt(3) == 0 ? value / 100000L * 100000L + 99995L : value;
    }

    private void oddFormats() {
        for (int i = 0; i < 200000; i++) {
            if (i % 10 == 0) {
                clear();
                int count = random.nextInt(10);
                for (int k = 0; k < count; k++) {
                    addAny();
                }
            }
            StringBuilder format = new StringBuilder();
            int pieces = 1 + random.nextInt(6);
            for (int k = 0; k < pieces; k++) {
                format.append(anyPiece());
            }
            compare(format.substring(0, Math.min(format.length(), 256)));
        }
    }

    private void addAny() {
        switch (random.nextInt(6)) {
            case 0:
                addNothing();
                break;
            case 1:
                addTruth(random.nextBoolean());
                break;
            case 2:
                addSymbol(random.nextInt(256));
                break;
            case 3:
                addWhole(BITS[random.nextInt(4)], anyLong());
                break;
            case 4:
                addText("Text %d \u00fcz".repeat(6).substring(0, random.nextInt(55)));
                break;
            default:
                addDecimal(anyLong(), random.nextInt(41));
                break;
        }
    }

    private String anyPiece() {
        int way = random.nextInt(12);
        if (way == 0) {
            return "" + (char) random.nextInt(256);
        }
        if (way == 1) {
            return anyOf("%$.-#+0,(< 123bsdfgn", 1 + random.nextInt(5));
        }
        StringBuilder piece = new StringBuilder("%");
        if (random.nextInt(3) == 0) {
            piece.append(anyNumber(10)).append('$');
        }
        piece.append(anyOf(FLAGS, Math.max(0, random.nextInt(5) - 2)));
        if (random.nextInt(2) == 0) {
            piece.append(anyNumber(30));
        }
        if (random.nextInt(3) == 0) {
            piece.append('.').append(anyNumber(20));
        }
        return piece.append(anyOf(CONVERSIONS, 1)).toString();
    }

    private String anyNumber(int usual) {
        int way = random.nextInt(40);
        return way == 0 ? "4096" : way == 1 ? "123456789012345" : way == 2 ? "2040" : "" + random.nextInt(usual);
    }

    private String anyOf(String characters, int count) {
        StringBuilder text = new StringBuilder();
        for (int i = 0; i < count; i++) {
            text.append(characters.charAt(random.nextInt(characters.length())));
        }
        return text.toString();
    }
}
