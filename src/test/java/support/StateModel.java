import java.math.BigDecimal;
import java.util.ArrayList;
import java.util.List;

/**
 * The promises 1 to 14 once more: what an object holds, what each call answers and what it
 * changes. An answer is a number, or the class of the exception that is due.
 */
final class StateModel {
    private static final Integer NONE = -1;

    private final List<Object> arguments = new ArrayList<>();
    private String format = "";
    private String printed = "";
    private int fault = 0;
    private int place = NONE;

    Object write(int n, long characters) {
        if (n < 1 || n > 8) {
            return IllegalArgumentException.class;
        }
        if (format.length() + n > 256) {
            return NONE;
        }
        long rest = characters;
        for (int i = 0; i < n; i++) {
            format += (char) Math.floorMod(rest, 256L);
            rest = Math.floorDiv(rest, 256L);
        }
        return format.length();
    }

    Object wipe() {
        int had = format.length();
        format = "";
        return had;
    }

    Object clear() {
        int had = arguments.size();
        arguments.clear();
        return had;
    }

    Object nothing() {
        return add(null);
    }

    Object truth(boolean is) {
        return add(is);
    }

    Object symbol(int code) {
        return code < 0 || code > 255 ? IllegalArgumentException.class : add((char) code);
    }

    Object whole(int bits, long value) {
        return switch (bits) {
            case 8 -> add(new Model.Whole(8, (byte) value));
            case 16 -> add(new Model.Whole(16, (short) value));
            case 32 -> add(new Model.Whole(32, (int) value));
            case 64 -> add(new Model.Whole(64, value));
            default -> IllegalArgumentException.class;
        };
    }

    Object text() {
        if (format.length() > 64) {
            return IllegalStateException.class;
        }
        Object answer = add(format);
        if (!answer.equals(NONE)) {
            format = "";
        }
        return answer;
    }

    Object decimal(long unscaled, int scale) {
        return scale < 0 || scale > 40 ? IllegalArgumentException.class : add(BigDecimal.valueOf(unscaled, scale));
    }

    Object print() {
        String outcome = Model.outcome(arguments, format);
        if (outcome.startsWith("\"")) {
            printed = outcome.substring(1, outcome.length() - 1);
            fault = 0;
            place = NONE;
            return printed.length();
        }
        int at = outcome.indexOf('@');
        printed = "";
        fault = Integer.parseInt(outcome.substring(0, at));
        place = Integer.parseInt(outcome.substring(at + 1));
        return NONE;
    }

    Object printed(int i) {
        return i < 0 || i >= printed.length() ? NONE : (Object) (int) printed.charAt(i);
    }

    Object fault() {
        return fault;
    }

    Object place() {
        return place;
    }

    int charactersPrinted() {
        return printed.length();
    }

    private Object add(Object argument) {
        if (arguments.size() == 9) {
            return NONE;
        }
        arguments.add(argument);
        return arguments.size();
    }
}
