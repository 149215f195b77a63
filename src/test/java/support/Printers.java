import java.math.BigDecimal;

/** New printers, with their arguments. */
final class Printers {
    private Printers() {
    }

    static DirectivePrinter wholes(int bits, long... values) {
        DirectivePrinter x = new DirectivePrinter();
        for (long value : values) {
            x.whole(bits, value);
        }
        return x;
    }

    /** Each decimal as it is written: 1.50 has the scale 2. */
    static DirectivePrinter decimals(String... written) {
        DirectivePrinter x = new DirectivePrinter();
        for (String one : written) {
            BigDecimal decimal = new BigDecimal(one);
            x.decimal(decimal.unscaledValue().longValueExact(), decimal.scale());
        }
        return x;
    }

    static DirectivePrinter texts(String... texts) {
        DirectivePrinter x = new DirectivePrinter();
        for (String text : texts) {
            Check.text(x, text);
        }
        return x;
    }

    static DirectivePrinter nothings(int n) {
        DirectivePrinter x = new DirectivePrinter();
        for (int i = 0; i < n; i++) {
            x.nothing();
        }
        return x;
    }

    /** nothing, truth, character, whole 8, 16, 32, 64, text, decimal. */
    static DirectivePrinter allKinds() {
        DirectivePrinter x = new DirectivePrinter();
        x.nothing();
        x.truth(true);
        x.symbol('k');
        x.whole(8, 65L);
        x.whole(16, 66L);
        x.whole(32, 67L);
        x.whole(64, 68L);
        Check.text(x, "t");
        x.decimal(15L, 1);
        return x;
    }
}
