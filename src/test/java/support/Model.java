import java.math.BigDecimal;
import java.math.BigInteger;
import java.math.MathContext;
import java.math.RoundingMode;
import java.util.List;
import java.util.regex.Matcher;
import java.util.regex.Pattern;

/**
 * The document's words once more, by other means (patterns and BigDecimal), to be
 * compared with the class over inputs that are too many to write down.
 *
 * Arguments are: null, Boolean, Character, Whole, String or BigDecimal.
 */
final class Model {
    record Whole(int bits, long value) {
    }

    private static final Pattern DIRECTIVE = Pattern.compile(
            "%(?:([1-9][0-9]*)\\$)?([-#+0,(< ]*)([1-9][0-9]*)?(?:\\.([0-9]+))?(.)?", Pattern.DOTALL);

    private final List<Object> arguments;
    private final StringBuilder out = new StringBuilder();
    private int unnumbered = 0;
    private int previous = 0;
    private String flags;
    private int width;
    private int precision;
    private char conversion;

    private Model(List<Object> arguments) {
        this.arguments = arguments;
    }

    /** In the form of Check.outcome. */
    static String outcome(List<Object> arguments, String format) {
        return new Model(arguments).run(format);
    }

    private String run(String format) {
        Matcher matcher = DIRECTIVE.matcher(format);
        int at = 0;
        while (at < format.length()) {
            int fault = 0;
            int end = at + 1;
            if (format.charAt(at) == '%') {
                matcher.region(at, format.length());
                matcher.lookingAt();
                end = matcher.end();
                fault = directive(matcher);
            } else {
                out.append(format.charAt(at));
            }
            if (fault == 0 && out.length() > 4096) {
                fault = 12;
            }
            if (fault != 0) {
                return fault + "@" + at;
            }
            at = end;
        }
        return "\"" + out + "\"";
    }

    private static int number(String digits) {
        return digits == null ? -1 : new BigInteger(digits).min(BigInteger.valueOf(9999)).intValue();
    }

    private boolean has(char flag) {
        return flags.indexOf(flag) >= 0;
    }

    private int directive(Matcher matcher) {
        if (matcher.group(5) == null) {
            return 1;
        }
        flags = matcher.group(2);
        width = number(matcher.group(3));
        precision = number(matcher.group(4));
        conversion = matcher.group(5).charAt(0);
        int fault = formFault();
        if (fault != 0) {
            return fault;
        }
        if (conversion == '%' || conversion == 'n') {
            out.append(widened(conversion == 'n' ? "\n" : "%", 0, false));
            return 0;
        }
        int which = has('<') ? previous : matcher.group(1) != null ? number(matcher.group(1)) : ++unnumbered;
        if (which < 1 || which > arguments.size()) {
            return 9;
        }
        previous = which;
        return withArgument(arguments.get(which - 1));
    }

    private int formFault() {
        if ("bBsScCdoxXfeEgG%n".indexOf(conversion) < 0) {
            return 2;
        }
        if (flags.chars().distinct().count() != flags.length()) {
            return 3;
        }
        if (conversion == 'n' && (width >= 0 || precision >= 0 || !flags.isEmpty())) {
            return 4;
        }
        if (precision >= 0 && "cCdoxX%".indexOf(conversion) >= 0) {
            return 5;
        }
        String barred = switch (conversion) {
            case 'd', 'g', 'G' -> "#";
            case 'o', 'x', 'X' -> "+,( ";
            case 'f' -> "";
            case 'e', 'E' -> ",";
            default -> "#+0,( ";
        };
        if (flags.chars().anyMatch(f -> barred.indexOf(f) >= 0)) {
            return 6;
        }
        if ((has('-') || has('0')) && width < 0) {
            return 7;
        }
        return has('-') && has('0') || has('+') && has(' ') ? 8 : 0;
    }

    private int withArgument(Object argument) {
        char small = Character.toLowerCase(conversion);
        boolean fits = switch (small) {
            case 'c' -> argument == null || argument instanceof Character
                    || argument instanceof Whole w && w.bits() != 64;
            case 'd', 'o', 'x' -> argument == null || argument instanceof Whole;
            case 'f', 'e', 'g' -> argument == null || argument instanceof BigDecimal;
            default -> true;
        };
        if (!fits) {
            return 10;
        }
        if (small == 'c' && argument instanceof Whole w && (w.value() & ~255L) != 0) {
            return 11;
        }
        String text = content(small, argument);
        if (conversion != small) {
            StringBuilder large = new StringBuilder();
            text.chars().forEach(c -> large.append((char) (c >= 'a' && c <= 'z' ? c - 32 : c)));
            text = large.toString();
        }
        out.append(text);
        return 0;
    }

    private String content(char small, Object argument) {
        if (small == 'b') {
            return widened(cut(argument == null || argument.equals(false) ? "false" : "true"), 0, false);
        }
        if (small == 's') {
            return widened(cut(plain(argument)), 0, false);
        }
        if (argument == null) {
            return widened("null", 0, false);
        }
        if (small == 'c') {
            return widened(argument instanceof Whole w ? "" + (char) w.value() : argument.toString(), 0, false);
        }
        if (small == 'o' || small == 'x') {
            Whole whole = (Whole) argument;
            BigInteger size = BigInteger.valueOf(whole.value());
            if (size.signum() < 0) {
                size = size.add(BigInteger.ONE.shiftLeft(whole.bits()));
            }
            String base = !has('#') ? "" : small == 'o' ? "0" : "0x";
            return widened(base + size.toString(small == 'o' ? 8 : 16), base.length(), true);
        }
        return signed(small, argument);
    }

    private String signed(char small, Object argument) {
        BigDecimal value = argument instanceof Whole w ? BigDecimal.valueOf(w.value()) : (BigDecimal) argument;
        String size = size(small, value.abs());
        if (value.signum() < 0) {
            return has('(') ? widened("(" + size + ")", 1, true) : widened("-" + size, 1, true);
        }
        String sign = has('+') ? "+" : has(' ') ? " " : "";
        return widened(sign + size, sign.length(), true);
    }

    private String size(char small, BigDecimal value) {
        int usual = precision < 0 ? 6 : precision;
        switch (small) {
            case 'd':
                return fixed(value, 0, false);
            case 'f':
                return fixed(value, usual, has('#'));
            case 'e':
                return scientific(value, usual, has('#'));
            default:
                int p = Math.max(usual, 1);
                BigDecimal rounded = value.round(new MathContext(p, RoundingMode.HALF_UP));
                if (rounded.signum() == 0) {
                    return fixed(rounded, p - 1, false);
                }
                if (rounded.compareTo(new BigDecimal("0.0001")) >= 0
                        && rounded.compareTo(BigDecimal.TEN.pow(p)) < 0) {
                    int exponent = rounded.precision() - 1 - rounded.scale();
                    return fixed(rounded, p - 1 - exponent, false);
                }
                return scientific(value, p - 1, false);
        }
    }

    private String fixed(BigDecimal value, int behind, boolean pointed) {
        String digits = value.setScale(behind, RoundingMode.HALF_UP).toPlainString();
        int point = digits.indexOf('.') < 0 ? digits.length() : digits.indexOf('.');
        String before = digits.substring(0, point);
        if (has(',')) {
            before = before.replaceAll("(?<=[0-9])(?=([0-9]{3})+$)", ",");
        }
        return before + digits.substring(point) + (pointed && behind == 0 ? "." : "");
    }

    private static String scientific(BigDecimal value, int behind, boolean pointed) {
        BigDecimal rounded = value.round(new MathContext(behind + 1, RoundingMode.HALF_UP));
        int exponent = rounded.signum() == 0 ? 0 : rounded.precision() - 1 - rounded.scale();
        StringBuilder digits = new StringBuilder(rounded.signum() == 0 ? "0" : rounded.unscaledValue().toString());
        while (digits.length() < behind + 1) {
            digits.append('0');
        }
        // rounding up to a power of ten may leave zeros more than are asked for
        digits.setLength(behind + 1);
        if (behind > 0 || pointed) {
            digits.insert(1, '.');
        }
        return digits + (exponent < 0 ? "e-" : "e+") + (Math.abs(exponent) < 10 ? "0" : "") + Math.abs(exponent);
    }

    private static String plain(Object argument) {
        if (argument instanceof BigDecimal d) {
            return d.toPlainString();
        }
        return argument instanceof Whole w ? Long.toString(w.value()) : String.valueOf(argument);
    }

    private String cut(String text) {
        return precision < 0 ? text : text.substring(0, Math.min(precision, text.length()));
    }

    private String widened(String text, int head, boolean number) {
        int missing = Math.max(0, width - text.length());
        if (has('-')) {
            return text + " ".repeat(missing);
        }
        if (number && has('0')) {
            return text.substring(0, head) + "0".repeat(missing) + text.substring(head);
        }
        return " ".repeat(missing) + text;
    }
}
