/**
 * Prints a format text whose directives stand for arguments, or tells which
 * directive is at fault, and why.
 *
 * <p>All rows are made once, with the object, and used again by every call.
 */
public final class DirectivePrinter {
    public static final int NONE = -1;

    private static final int MOST_ARGUMENTS = 9;
    private static final int MOST_IN_TEXT = 64;
    private static final int MOST_IN_FORMAT = 256;
    private static final int MOST_PRINTED = 4096;
    private static final int LARGEST_CODE = 255;
    private static final int LARGEST_SCALE = 40;
    private static final int LARGEST_NUMBER = 9999;

    private static final int NO_FAULT = 0;
    private static final int FORMAT_ENDS = 1;
    private static final int UNKNOWN_CONVERSION = 2;
    private static final int FLAG_TWICE = 3;
    private static final int LINE_FEED_NOT_BARE = 4;
    private static final int PRECISION_NOT_HERE = 5;
    private static final int FLAG_NOT_HERE = 6;
    private static final int WIDTH_MISSING = 7;
    private static final int FLAGS_CLASH = 8;
    private static final int NO_SUCH_ARGUMENT = 9;
    private static final int WRONG_KIND = 10;
    private static final int NO_CODE = 11;
    private static final int TOO_LONG = 12;

    private final Row format;
    private final Row paper;
    private final Argument[] arguments;
    private final Directive directive;
    private final Composer composer;
    private int argumentCount;
    private int lastFault;
    private int lastPlace;
    private int unnumbered;
    private int previousArgument;

    public DirectivePrinter() {
        format = new Row(MOST_IN_FORMAT);
        arguments = new Argument[MOST_ARGUMENTS];
        for (int i = 0; i < arguments.length; i++) {
            arguments[i] = new Argument();
        }
        directive = new Directive();
        composer = new Composer();
        paper = composer.paper;
        argumentCount = 0;
        lastFault = NO_FAULT;
        lastPlace = NONE;
        unnumbered = 0;
        previousArgument = 0;
    }

    public int write(int n, long characters) throws IllegalArgumentException {
        if (n < 1 || n > 8) {
            throw new IllegalArgumentException("n is not 1 .. 8");
        }
        if (format.size() + n > MOST_IN_FORMAT) {
            return NONE;
        }
        for (int i = 0; i < n; i++) {
            format.add((char) ((characters >>> (8 * i)) & 255L));
        }
        return format.size();
    }

    public int wipe() {
        int had = format.size();
        format.cutTo(0);
        return had;
    }

    public int clear() {
        int had = argumentCount;
        argumentCount = 0;
        return had;
    }

    public int nothing() {
        return addArgument(Kind.NOTHING, 0L, 0);
    }

    public int truth(boolean is) {
        return addArgument(Kind.TRUTH, is ? 1L : 0L, 0);
    }

    public int symbol(int code) throws IllegalArgumentException {
        if (code < 0 || code > LARGEST_CODE) {
            throw new IllegalArgumentException("code is not 0 .. 255");
        }
        return addArgument(Kind.CHARACTER, code, 0);
    }

    public int whole(int bits, long value) throws IllegalArgumentException {
        if (bits != 8 && bits != 16 && bits != 32 && bits != 64) {
            throw new IllegalArgumentException("bits is not 8, 16, 32 or 64");
        }
        int unused = 64 - bits;
        return addArgument(Kind.WHOLE, (value << unused) >> unused, bits);
    }

    public int text() throws IllegalStateException {
        if (format.size() > MOST_IN_TEXT) {
            throw new IllegalStateException("the format has more than 64 characters");
        }
        int answer = addArgument(Kind.TEXT, 0L, 0);
        Argument added = argumentNumbered(answer);
        if (added != null) {
            added.characters.cutTo(0);
            added.characters.addRow(format);
            format.cutTo(0);
        }
        return answer;
    }

    public int decimal(long unscaled, int scale) throws IllegalArgumentException {
        if (scale < 0 || scale > LARGEST_SCALE) {
            throw new IllegalArgumentException("scale is not 0 .. 40");
        }
        return addArgument(Kind.DECIMAL, unscaled, scale);
    }

    public int print() {
        paper.cutTo(0);
        lastFault = NO_FAULT;
        lastPlace = NONE;
        unnumbered = 0;
        previousArgument = 0;
        int length = format.size();
        for (int at = 0; at < length && lastFault == NO_FAULT; at++) {
            if (format.at(at) == '%') {
                // max: the loop only ever goes forward, whatever was read
                at = Math.max(at, runDirective(at));
            } else {
                runCharacter(at);
            }
        }
        if (lastFault != NO_FAULT) {
            paper.cutTo(0);
            return NONE;
        }
        return paper.size();
    }

    public int printed(int i) {
        return paper.at(i);
    }

    public int fault() {
        return lastFault;
    }

    public int place() {
        return lastPlace;
    }

    private int addArgument(Kind kind, long value, int size) {
        if (argumentCount < 0 || argumentCount >= arguments.length) {
            return NONE;
        }
        Argument added = arguments[argumentCount];
        if (added == null) {
            return NONE;
        }
        added.kind = kind;
        added.value = value;
        added.size = size;
        argumentCount++;
        return argumentCount;
    }

    private Argument argumentNumbered(int number) {
        if (number < 1 || number > argumentCount || number > arguments.length) {
            return null;
        }
        return arguments[number - 1];
    }

    private void runCharacter(int at) {
        paper.add((char) format.at(at));
        blame(faultOfLength(), at);
    }

    /** Answers where the directive's last character stands. */
    private int runDirective(int at) {
        directive.read(format, at);
        Argument argument = null;
        int found = directive.faultOfForm();
        if (found == NO_FAULT && directive.takesArgument()) {
            previousArgument = chooseArgument();
            argument = argumentNumbered(previousArgument);
            found = faultOfArgument(argument);
        }
        if (found == NO_FAULT) {
            composer.compose(directive, argument);
            found = faultOfLength();
        }
        blame(found, at);
        return directive.last();
    }

    /** Answers 0, which numbers no argument, when < has no directive to look back to. */
    private int chooseArgument() {
        if (directive.has(Directive.SAME)) {
            return previousArgument;
        }
        if (directive.index != NONE) {
            return directive.index;
        }
        unnumbered++;
        return unnumbered;
    }

    private int faultOfArgument(Argument argument) {
        return argument == null ? NO_SUCH_ARGUMENT : argument.faultWith(directive.smallConversion());
    }

    private int faultOfLength() {
        return paper.size() > MOST_PRINTED ? TOO_LONG : NO_FAULT;
    }

    private void blame(int found, int at) {
        if (found != NO_FAULT) {
            lastFault = found;
            lastPlace = at;
        }
    }

    private enum Kind {
        NOTHING, TRUTH, CHARACTER, WHOLE, TEXT, DECIMAL
    }

    /**
     * Characters one behind the other. What comes behind the end of the room is
     * counted but not kept, so that a caller can add first and look at the size then.
     */
    private static final class Row {
        private final char[] kept;
        private int length;

        Row(int room) {
            kept = new char[Math.max(room, 0)];
            length = 0;
        }

        int size() {
            return length;
        }

        int at(int i) {
            return i >= 0 && i < length && i < kept.length ? kept[i] : NONE;
        }

        void add(char c) {
            if (length >= 0 && length < kept.length) {
                kept[length] = c;
            }
            length++;
        }

        void addWord(String word) {
            for (int i = 0; i < word.length(); i++) {
                add(word.charAt(i));
            }
        }

        void addRow(Row other) {
            int end = Math.min(other.length, other.kept.length);
            for (int i = 0; i < end; i++) {
                add(other.kept[i]);
            }
        }

        /** Goes no farther than the room, however large n is. */
        void addMany(char c, int n) {
            if (n <= 0 || length < 0) {
                return;
            }
            int end = Math.min(length + n, kept.length);
            for (int i = length; i < end; i++) {
                kept[i] = c;
            }
            length += n;
        }

        void insert(int at, char c, int n) {
            if (n <= 0 || at < 0 || at > length) {
                return;
            }
            int end = Math.min(length + n, kept.length);
            for (int i = end - 1; i >= at + n; i--) {
                kept[i] = kept[i - n];
            }
            int gapEnd = Math.min(at + n, kept.length);
            for (int i = at; i < gapEnd; i++) {
                kept[i] = c;
            }
            length += n;
        }

        void cutTo(int size) {
            if (size >= 0 && size < length) {
                length = size;
            }
        }

        void enlargeLettersFrom(int start) {
            int end = Math.min(length, kept.length);
            for (int i = Math.max(start, 0); i < end; i++) {
                if (kept[i] >= 'a' && kept[i] <= 'z') {
                    kept[i] = (char) (kept[i] - 'a' + 'A');
                }
            }
        }
    }

    private static final class Argument {
        private Kind kind;
        /** The truth (1 or 0), the code, the whole number, or the decimal's integer. */
        private long value;
        /** The bits of a whole number, or the scale of a decimal. */
        private int size;
        private final Row characters;

        Argument() {
            kind = Kind.NOTHING;
            value = 0L;
            size = 0;
            characters = new Row(MOST_IN_TEXT);
        }

        boolean isFalse() {
            return kind == Kind.NOTHING || (kind == Kind.TRUTH && value == 0L);
        }

        int scale() {
            return kind == Kind.DECIMAL ? size : 0;
        }

        int faultWith(char conversion) {
            if (!suits(conversion)) {
                return WRONG_KIND;
            }
            if (conversion == 'c' && kind == Kind.WHOLE && (value < 0L || value > LARGEST_CODE)) {
                return NO_CODE;
            }
            return NO_FAULT;
        }

        private boolean suits(char conversion) {
            if (kind == Kind.NOTHING || conversion == 'b' || conversion == 's') {
                return true;
            }
            if (conversion == 'c') {
                return kind == Kind.CHARACTER || (kind == Kind.WHOLE && size < 64);
            }
            if (conversion == 'd' || conversion == 'o' || conversion == 'x') {
                return kind == Kind.WHOLE;
            }
            return kind == Kind.DECIMAL;
        }
    }

    /** One directive as it was read last; NONE stands for a part that it does not have. */
    private static final class Directive {
        private static final String FLAGS = "-#+0,(< ";
        private static final int LEFT = 1;
        private static final int SHARP = 2;
        private static final int PLUS = 4;
        private static final int ZERO = 8;
        private static final int COMMA = 16;
        private static final int BRACKET = 32;
        private static final int SAME = 64;
        private static final int BLANK = 128;
        private static final int ALL = 255;

        private static final String CONVERSIONS = "bBsScCdoxXfeEgG%n";
        private static final String WITHOUT_PRECISION = "cCdoxX%";

        private int index;
        private int flags;
        private boolean flagTwice;
        private int width;
        private int precision;
        private int conversion;
        private int next;

        Directive() {
            index = NONE;
            flags = 0;
            flagTwice = false;
            width = NONE;
            precision = NONE;
            conversion = NONE;
            next = 0;
        }

        void read(Row format, int start) {
            next = start + 1;
            readIndex(format);
            readFlags(format);
            width = readNumber(format);
            readPrecision(format);
            conversion = format.at(next);
        }

        int last() {
            return next;
        }

        boolean has(int flag) {
            return (flags & flag) != 0;
        }

        boolean takesArgument() {
            return conversion != '%' && conversion != 'n';
        }

        boolean isLarge() {
            return conversion >= 'A' && conversion <= 'Z';
        }

        char smallConversion() {
            return (char) (isLarge() ? conversion - 'A' + 'a' : conversion);
        }

        int precisionOr(int usual) {
            return precision == NONE ? usual : precision;
        }

        /** The faults 1 to 8, for which neither arguments nor paper are looked at. */
        int faultOfForm() {
            if (conversion == NONE) {
                return FORMAT_ENDS;
            }
            if (CONVERSIONS.indexOf((char) conversion) < 0) {
                return UNKNOWN_CONVERSION;
            }
            if (flagTwice) {
                return FLAG_TWICE;
            }
            if (conversion == 'n' && (width != NONE || precision != NONE || flags != 0)) {
                return LINE_FEED_NOT_BARE;
            }
            if (precision != NONE && WITHOUT_PRECISION.indexOf((char) conversion) >= 0) {
                return PRECISION_NOT_HERE;
            }
            return faultOfFlags();
        }

        private int faultOfFlags() {
            if ((flags & ~allowedFlags()) != 0) {
                return FLAG_NOT_HERE;
            }
            if (width == NONE && (has(LEFT) || has(ZERO))) {
                return WIDTH_MISSING;
            }
            if ((has(LEFT) && has(ZERO)) || (has(PLUS) && has(BLANK))) {
                return FLAGS_CLASH;
            }
            return NO_FAULT;
        }

        private int allowedFlags() {
            switch (smallConversion()) {
                case 'd':
                case 'g':
                    return ALL & ~SHARP;
                case 'o':
                case 'x':
                    return LEFT | SHARP | ZERO | SAME;
                case 'f':
                    return ALL;
                case 'e':
                    return ALL & ~COMMA;
                default:
                    return LEFT | SAME;
            }
        }

        /** Digits are an index only with $ behind them; else they are left to flags and width. */
        private void readIndex(Row format) {
            int start = next;
            index = NONE;
            if (format.at(start) == '0') {
                return;
            }
            int number = readNumber(format);
            if (number != NONE && format.at(next) == '$') {
                index = number;
                next++;
            } else {
                next = start;
            }
        }

        private void readFlags(Row format) {
            flags = 0;
            flagTwice = false;
            int end = format.size();
            while (next < end) {
                int which = FLAGS.indexOf((char) format.at(next));
                if (which < 0) {
                    return;
                }
                int flag = 1 << which;
                flagTwice = flagTwice || has(flag);
                flags = flags | flag;
                next++;
            }
        }

        /** A point without a digit behind it is no precision: then it is the conversion. */
        private void readPrecision(Row format) {
            precision = NONE;
            if (format.at(next) == '.' && isDigit(format.at(next + 1))) {
                next++;
                precision = readNumber(format);
            }
        }

        private int readNumber(Row format) {
            int number = NONE;
            int end = format.size();
            while (next < end && isDigit(format.at(next))) {
                int digit = format.at(next) - '0';
                number = Math.min(Math.max(number, 0) * 10 + digit, LARGEST_NUMBER);
                next++;
            }
            return number;
        }

        private static boolean isDigit(int c) {
            return c >= '0' && c <= '9';
        }
    }

    /**
     * The digits of a number's size, the lowest first, of which the last `scale` stand
     * behind the point. Digits are asked for by their power of the base, so that zeros
     * before and behind the known ones need no room.
     */
    private static final class Figures {
        /** 2 to the 64 has 22 digits to the base 8; rounding may add one to the base 10. */
        private static final int ROOM = 24;
        private static final String SIGNS = "0123456789abcdef";

        private final int[] digits;
        private int count;
        private int scale;

        Figures() {
            digits = new int[ROOM];
            count = 0;
            scale = 0;
        }

        void takeDecimal(long value, int newScale) {
            forget(newScale);
            // below 0, since the size of the lowest long is no long
            long rest = value < 0L ? value : -value;
            for (int i = 0; i < ROOM && rest != 0L; i++) {
                digits[i] = (int) -(rest % 10L);
                rest = rest / 10L;
                count++;
            }
        }

        void takeBits(long value, int bits, int bitsOfDigit) {
            forget(0);
            long rest = bits < 64 ? value & ((1L << bits) - 1L) : value;
            long mask = (1L << bitsOfDigit) - 1L;
            for (int i = 0; i < ROOM && rest != 0L; i++) {
                digits[i] = (int) (rest & mask);
                rest = rest >>> bitsOfDigit;
                count++;
            }
        }

        private void forget(int newScale) {
            for (int i = 0; i < ROOM; i++) {
                digits[i] = 0;
            }
            count = 0;
            scale = newScale;
        }

        boolean isZero() {
            return count == 0;
        }

        /** The power of the first digit that is not 0 (for 0 there is none: a power below all). */
        int top() {
            return count - 1 - scale;
        }

        /** The exponent when one digit stands before the point. */
        int exponent() {
            return isZero() ? 0 : top();
        }

        int lowestPower() {
            return -scale;
        }

        char sign(int power) {
            int at = power + scale;
            int digit = at >= 0 && at < count && at < ROOM ? digits[at] : 0;
            return digit >= 0 && digit < SIGNS.length() ? SIGNS.charAt(digit) : '0';
        }

        /** Rounds to digits of this power and above: to the nearest, of two away from 0. */
        void roundTo(int power) {
            int dropped = power + scale;
            if (dropped <= 0) {
                return;
            }
            boolean up = dropped <= count && dropped <= ROOM && digits[dropped - 1] >= 5;
            int end = Math.min(dropped, ROOM);
            for (int i = 0; i < end; i++) {
                digits[i] = 0;
            }
            if (up) {
                countUpFrom(dropped);
            } else if (dropped >= count) {
                count = 0;
            }
        }

        private void countUpFrom(int start) {
            for (int i = Math.max(start, 0); i < ROOM; i++) {
                if (digits[i] < 9) {
                    digits[i]++;
                    count = Math.max(count, i + 1);
                    return;
                }
                digits[i] = 0;
            }
        }
    }

    /** Puts what one directive prints behind what is on the paper already. */
    private static final class Composer {
        private static final int USUAL_PRECISION = 6;
        private static final int LOWEST_FIXED_EXPONENT = -4;

        private final Row paper;
        private final Figures figures;
        private int start;
        /** Where zeros go that widen a number: behind its sign, bracket or base. */
        private int zerosAt;
        private int behind;
        private boolean withExponent;

        Composer() {
            paper = new Row(MOST_PRINTED);
            figures = new Figures();
            start = 0;
            zerosAt = NONE;
            behind = 0;
            withExponent = false;
        }

        /** The argument is null for a directive that takes none. */
        void compose(Directive directive, Argument argument) {
            start = paper.size();
            zerosAt = NONE;
            char conversion = directive.smallConversion();
            if (argument == null) {
                paper.add(conversion == 'n' ? '\n' : '%');
            } else if (conversion == 'b') {
                paper.addWord(argument.isFalse() ? "false" : "true");
                shorten(directive);
            } else if (conversion == 's') {
                addPlain(argument);
                shorten(directive);
            } else if (argument.kind == Kind.NOTHING) {
                paper.addWord("null");
            } else if (conversion == 'c') {
                paper.add((char) argument.value);
            } else if (conversion == 'o' || conversion == 'x') {
                addBits(directive, argument);
            } else {
                addSigned(directive, argument);
            }
            widen(directive);
            if (directive.isLarge()) {
                paper.enlargeLettersFrom(start);
            }
        }

        private void shorten(Directive directive) {
            if (directive.precision != NONE) {
                paper.cutTo(start + directive.precision);
            }
        }

        private void widen(Directive directive) {
            int missing = directive.width - (paper.size() - start);
            if (directive.has(Directive.LEFT)) {
                paper.addMany(' ', missing);
            } else if (directive.has(Directive.ZERO) && zerosAt != NONE) {
                paper.insert(zerosAt, '0', missing);
            } else {
                paper.insert(start, ' ', missing);
            }
        }

        private void addPlain(Argument argument) {
            if (argument.kind == Kind.NOTHING) {
                paper.addWord("null");
            } else if (argument.kind == Kind.TRUTH) {
                paper.addWord(argument.isFalse() ? "false" : "true");
            } else if (argument.kind == Kind.CHARACTER) {
                paper.add((char) argument.value);
            } else if (argument.kind == Kind.TEXT) {
                paper.addRow(argument.characters);
            } else {
                if (argument.value < 0L) {
                    paper.add('-');
                }
                figures.takeDecimal(argument.value, argument.scale());
                behind = argument.scale();
                addFixed(false, false);
            }
        }

        private void addBits(Directive directive, Argument argument) {
            boolean octal = directive.smallConversion() == 'o';
            if (directive.has(Directive.SHARP)) {
                paper.addWord(octal ? "0" : "0x");
            }
            zerosAt = paper.size();
            figures.takeBits(argument.value, argument.size, octal ? 3 : 4);
            behind = 0;
            addFixed(false, false);
        }

        private void addSigned(Directive directive, Argument argument) {
            boolean below = argument.value < 0L;
            boolean bracket = below && directive.has(Directive.BRACKET);
            if (below) {
                paper.add(bracket ? '(' : '-');
            } else if (directive.has(Directive.PLUS)) {
                paper.add('+');
            } else if (directive.has(Directive.BLANK)) {
                paper.add(' ');
            }
            zerosAt = paper.size();
            figures.takeDecimal(argument.value, argument.scale());
            roundFor(directive);
            if (withExponent) {
                addWithExponent(directive.has(Directive.SHARP));
            } else {
                addFixed(directive.has(Directive.COMMA), directive.has(Directive.SHARP));
            }
            if (bracket) {
                paper.add(')');
            }
        }

        /** Settles, too, the form and how many digits stand behind the point, since g needs them rounded. */
        private void roundFor(Directive directive) {
            int precision = directive.precisionOr(USUAL_PRECISION);
            withExponent = false;
            switch (directive.smallConversion()) {
                case 'd':
                    behind = 0;
                    break;
                case 'f':
                    behind = precision;
                    figures.roundTo(-precision);
                    break;
                case 'e':
                    behind = precision;
                    withExponent = true;
                    figures.roundTo(figures.top() - precision);
                    break;
                default:
                    int inAll = Math.max(precision, 1);
                    figures.roundTo(figures.top() - (inAll - 1));
                    int exponent = figures.exponent();
                    withExponent = exponent < LOWEST_FIXED_EXPONENT || exponent >= inAll;
                    behind = withExponent ? inAll - 1 : inAll - 1 - exponent;
                    break;
            }
        }

        private void addFixed(boolean grouped, boolean pointed) {
            for (int power = Math.max(figures.top(), 0); power >= 0; power--) {
                paper.add(figures.sign(power));
                if (grouped && power > 0 && power % 3 == 0) {
                    paper.add(',');
                }
            }
            addBehindPoint(-1, pointed);
        }

        private void addWithExponent(boolean pointed) {
            int exponent = figures.exponent();
            paper.add(figures.sign(exponent));
            addBehindPoint(exponent - 1, pointed);
            paper.add('e');
            paper.add(exponent < 0 ? '-' : '+');
            // two digits are enough: no exponent is below -40 or above 18
            int size = Math.abs(exponent);
            paper.add((char) ('0' + size / 10 % 10));
            paper.add((char) ('0' + size % 10));
        }

        /** Zeros behind the last known digit are added at once, since there may be thousands. */
        private void addBehindPoint(int firstPower, boolean pointed) {
            if (behind > 0 || pointed) {
                paper.add('.');
            }
            int known = Math.min(behind, Math.max(firstPower - figures.lowestPower() + 1, 0));
            for (int i = 0; i < known; i++) {
                paper.add(figures.sign(firstPower - i));
            }
            paper.addMany('0', behind - known);
        }
    }
}
