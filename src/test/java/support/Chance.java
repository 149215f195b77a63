import java.util.Random;

/** Inputs by chance, always the same ones for a seed, and more often near the edges than chance would be. */
final class Chance {
    static final String FLAGS = "-#+0,(< ";
    static final String CONVERSIONS = "bBsScCdoxXfeEgG%n";
    static final long[] LONGS = {0, 1, -1, 5, 9, 10, -49, 50, 65, 99, 100, 127, -128, 255, 256, 999, 1000, -9995,
        9999, 12345, 99995, 999995, 999999, 1000000, 1234567, -123456789, 314159265, 4294967295L, 999999999999L,
        Long.MAX_VALUE, Long.MIN_VALUE, Long.MAX_VALUE - 1, 9000000000000000000L, 999999999999999999L};

    private final Random random;

    Chance(long seed) {
        random = new Random(seed);
    }

    int below(int bound) {
        return random.nextInt(bound);
    }

    boolean truth() {
        return random.nextBoolean();
    }

    int oneOf(int... numbers) {
        return numbers[random.nextInt(numbers.length)];
    }

    long anyLong() {
        if (random.nextInt(3) == 0) {
            return LONGS[random.nextInt(LONGS.length)];
        }
        long value = random.nextLong() >> random.nextInt(64);
        // many nines or a five at the end, where rounding is decided
        return random.nextInt(3) == 0 ? value / 100000L * 100000L + 99995L : value;
    }

    /** A directive most often, else characters that stand in none or break one off. */
    String piece() {
        int way = random.nextInt(12);
        if (way == 0) {
            return "" + (char) random.nextInt(256);
        }
        if (way == 1) {
            return someOf("%$.-#+0,(< 123bsdfgn", 1 + random.nextInt(5));
        }
        StringBuilder piece = new StringBuilder("%");
        if (random.nextInt(3) == 0) {
            piece.append(number(10)).append('$');
        }
        piece.append(someOf(FLAGS, Math.max(0, random.nextInt(5) - 2)));
        if (random.nextInt(2) == 0) {
            piece.append(number(30));
        }
        if (random.nextInt(3) == 0) {
            piece.append('.').append(number(20));
        }
        return piece.append(someOf(CONVERSIONS, 1)).toString();
    }

    /** A piece that is at no fault as long as there is an argument, of whatever kind. */
    String mildPiece() {
        if (random.nextInt(3) == 0) {
            return someOf("ab z|\u00e9\n$.-", 1 + random.nextInt(12));
        }
        String index = random.nextInt(4) == 0 ? "" : "1$";
        String width = random.nextInt(2) == 0 ? "" : someOf(" -", 1).trim() + (1 + random.nextInt(40));
        String precision = random.nextInt(3) == 0 ? "." + random.nextInt(20) : "";
        return random.nextInt(8) == 0 ? "%" + width + "%" : "%" + index + width + precision + someOf("bBsS", 1);
    }

    private String number(int usual) {
        int way = random.nextInt(40);
        return way == 0 ? "4096" : way == 1 ? "123456789012345" : way == 2 ? "2040" : "" + random.nextInt(usual);
    }

    private String someOf(String characters, int count) {
        StringBuilder text = new StringBuilder();
        for (int i = 0; i < count; i++) {
            text.append(characters.charAt(random.nextInt(characters.length())));
        }
        return text.toString();
    }
}
