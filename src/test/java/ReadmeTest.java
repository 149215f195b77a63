import java.io.IOException;
import java.math.BigInteger;
import java.nio.charset.StandardCharsets;
import java.nio.file.Files;
import java.nio.file.Path;
import java.util.ArrayList;
import java.util.List;
import java.util.regex.Matcher;
import java.util.regex.Pattern;

/**
 * The examples of README.md, each line of which names the answer that is due ("call; // answer: why"),
 * and in quotes, with write the characters that are written, with print() those that are printed.
 */
public final class ReadmeTest {
    private static final Pattern EXAMPLE = Pattern.compile("printer\\.(\\w+)\\((.*)\\);\\s+// (-?\\d+): (.*)");
    private static final Pattern QUOTED = Pattern.compile("\"(.*)\".*");

    public static void main(String[] args) throws IOException {
        DirectivePrinter printer = new DirectivePrinter();
        List<String> calls = new ArrayList<>();
        for (String line : Files.readAllLines(Path.of("README.md"), StandardCharsets.UTF_8)) {
            Matcher example = EXAMPLE.matcher(line);
            if (example.matches()) {
                calls.add(example.group(1));
                Check.due(line, call(printer, example.group(1), example.group(2)), Integer.valueOf(example.group(3)));
                Matcher quoted = QUOTED.matcher(example.group(4));
                if (quoted.matches()) {
                    Check.due(line, characters(printer, example.group(1), example.group(2)), quoted.group(1));
                }
            } else {
                Check.due(line + " is no example of another form", line.startsWith("printer."), false);
            }
        }
        Check.due("examples that print", calls.contains("print"), true);
        Check.end();
    }

    private static String characters(DirectivePrinter printer, String name, String arguments) {
        if (name.equals("print")) {
            return Check.printedText(printer);
        }
        byte[] bytes = BigInteger.valueOf(Long.decode(arguments.split(", ")[1].replace("L", ""))).toByteArray();
        return new StringBuilder(new String(bytes, StandardCharsets.ISO_8859_1)).reverse().toString();
    }

    private static int call(DirectivePrinter printer, String name, String arguments) {
        String[] each = arguments.replace("L", "").split(", ");
        return switch (name) {
            case "whole" -> printer.whole(Integer.parseInt(each[0]), Long.decode(each[1]));
            case "decimal" -> printer.decimal(Long.decode(each[0]), Integer.parseInt(each[1]));
            case "write" -> printer.write(Integer.parseInt(each[0]), Long.decode(each[1]));
            case "printed" -> printer.printed(Integer.parseInt(each[0]));
            case "text" -> printer.text();
            case "wipe" -> printer.wipe();
            case "print" -> printer.print();
            case "fault" -> printer.fault();
            case "place" -> printer.place();
            default -> throw new IllegalStateException("README.md has an example of " + name);
        };
    }
}
