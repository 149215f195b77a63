import java.math.BigDecimal;
import java.util.ArrayList;
import java.util.List;

/** Compares the class with the model: all flags with all conversions and kinds, then odd formats. */
public final class ModelTest {
    private final Chance chance = new Chance(20261115L);
    private final DirectivePrinter printer = new DirectivePrinter();
    private final List<Object> arguments = new ArrayList<>();

    public static void main(String[] args) {
        ModelTest test = new ModelTest();
        test.allFlags();
        test.roundings();
        test.oddFormats();
        Check.end();
    }

    private void clear() {
        printer.clear();
        arguments.clear();
    }

    private void addNothing() {
        printer.nothing();
        arguments.add(null);
    }

    private void addTruth(boolean is) {
        printer.truth(is);
        arguments.add(is);
    }

    private void addSymbol(int code) {
        printer.symbol(code);
        arguments.add((char) code);
    }

    private void addWhole(int bits, long value) {
        printer.whole(bits, value);
        long kept = bits == 8 ? (byte) value : bits == 16 ? (short) value : bits == 32 ? (int) value : value;
        arguments.add(new Model.Whole(bits, kept));
    }

    private void addText(String text) {
        Check.text(printer, text);
        arguments.add(text);
    }

    private void addDecimal(long unscaled, int scale) {
        printer.decimal(unscaled, scale);
        arguments.add(BigDecimal.valueOf(unscaled, scale));
    }

    private void compare(String format) {
        String got = Check.outcome(printer, format);
        Check.due("print() by " + format + " of " + arguments, got, Model.outcome(arguments, format));
    }

    private void allFlags() {
        String[] sizes = {"", "1", "7", "20", ".0", ".1", ".4", "9.2", "30.12"};
        for (int round = 0; round < 2; round++) {
            clear();
            addNothing();
            addTruth(round == 0);
            addSymbol(round == 0 ? 'q' : 0xE4);
            addText(round == 0 ? "" : "Some Text of azAZ");
            addWhole(8, round == 0 ? -3 : 77);
            addWhole(32, round == 0 ? -1234567 : 0);
            addWhole(64, round == 0 ? Long.MIN_VALUE : 1234567890123L);
            addDecimal(round == 0 ? -123456789L : 0L, 4);
            addDecimal(round == 0 ? Long.MIN_VALUE : 99999L, round == 0 ? 2 : 9);
            for (char conversion : Chance.CONVERSIONS.toCharArray()) {
                for (int set = 0; set < 256; set++) {
                    String flags = flagsOf(set);
                    for (String size : sizes) {
                        for (int number = 1; number <= arguments.size(); number++) {
                            String same = (set & 64) != 0 ? "%" + number + "$b" : "";
                            compare(same + "%" + number + "$" + flags + size + conversion);
                        }
                    }
                }
            }
        }
    }

    private String flagsOf(int set) {
        StringBuilder flags = new StringBuilder();
        for (int i = 0; i < Chance.FLAGS.length(); i++) {
            if ((set >> i & 1) != 0) {
                flags.insert(chance.below(flags.length() + 1), Chance.FLAGS.charAt(i));
            }
        }
        return flags.toString();
    }

    private void roundings() {
        for (long unscaled : Chance.LONGS) {
            for (int scale = 0; scale <= 40; scale++) {
                clear();
                addDecimal(unscaled, scale);
                compare("%s %<,f %<e %<g");
                for (int precision = 0; precision <= 44; precision += precision < 22 ? 1 : 11) {
                    compare("%." + precision + "f %<#." + precision + "e %<,." + precision + "G");
                }
            }
        }
        for (int i = 0; i < 100000; i++) {
            clear();
            addDecimal(chance.anyLong(), chance.below(41));
            int precision = chance.below(24);
            compare("%." + precision + "f %<." + precision + "e %<." + precision + "g");
        }
    }

    private void oddFormats() {
        for (int i = 0; i < 200000; i++) {
            if (i % 10 == 0) {
                clear();
                int count = chance.below(10);
                for (int k = 0; k < count; k++) {
                    addAny();
                }
            }
            StringBuilder format = new StringBuilder();
            int pieces = 1 + chance.below(6);
            for (int k = 0; k < pieces; k++) {
                format.append(chance.piece());
            }
            compare(format.substring(0, Math.min(format.length(), 256)));
        }
    }

    private void addAny() {
        switch (chance.below(6)) {
            case 0:
                addNothing();
                break;
            case 1:
                addTruth(chance.truth());
                break;
            case 2:
                addSymbol(chance.below(256));
                break;
            case 3:
                addWhole(chance.oneOf(8, 16, 32, 64), chance.anyLong());
                break;
            case 4:
                addText("Text %d \u00fcz".repeat(6).substring(0, chance.below(55)));
                break;
            default:
                addDecimal(chance.anyLong(), chance.below(41));
                break;
        }
    }
}
