import java.io.IOException;
import java.nio.file.Files;
import java.nio.file.Path;
import java.util.regex.Matcher;
import java.util.regex.Pattern;

/**
 * The calls that README.md shows answer what it tells. The lines are read from the file itself, so
 * that the example and the class can't come apart.
 */
public final class ReadmeTest {
    private static final Path README = Path.of("README.md");
    private static final Pattern LINE = Pattern.compile("text\\.(\\w+)\\(([^)]*)\\); +// (true|false|-?\\d+).*");

    private static int wrong = 0;

    public static void main(String[] args) throws IOException {
        RgaText text = new RgaText();
        int calls = 0;
        for (String line : Files.readAllLines(README)) {
            Matcher matcher = LINE.matcher(line);
            if (matcher.matches()) {
                calls++;
                due(line, call(text, matcher.group(1), numbers(matcher.group(2))), matcher.group(3));
            } else if (line.startsWith("text.")) {
                tell(line + ": a call whose answer isn't told");
            }
        }
        if (calls == 0) {
            tell("no call is shown");
        }
        System.out.println(wrong == 0 ? "the calls shown answer as told" : wrong + " faults");
        if (wrong != 0) {
            System.exit(1);
        }
    }

    private static String call(RgaText text, String name, int[] n) {
        switch (name) {
            case "insert": return String.valueOf(text.insert(n[0], n[1], n[2]));
            case "delete": return String.valueOf(text.delete(n[0], n[1]));
            case "learn": return String.valueOf(text.learn(n[0], n[1]));
            case "length": return String.valueOf(text.length(n[0]));
            case "charAt": return String.valueOf(text.charAt(n[0], n[1]));
            case "elementAt": return String.valueOf(text.elementAt(n[0], n[1]));
            case "placeOf": return String.valueOf(text.placeOf(n[0], n[1]));
            case "known": return String.valueOf(text.known(n[0]));
            case "rank": return String.valueOf(text.rank(n[0], n[1]));
            case "sameText": return String.valueOf(text.sameText(n[0], n[1]));
            default: return "no such call";
        }
    }

    private static int[] numbers(String arguments) {
        String[] parts = arguments.split(", ");
        int[] numbers = new int[parts.length];
        for (int i = 0; i < parts.length; i++) {
            boolean isCharacter = parts[i].startsWith("'");
            numbers[i] = isCharacter ? parts[i].charAt(1) : Integer.parseInt(parts[i]);
        }
        return numbers;
    }

    private static void due(String line, String got, String want) {
        if (!got.equals(want)) {
            tell(line + ": answered " + got);
        }
    }

    private static void tell(String fault) {
        wrong++;
        System.out.println(fault);
    }
}
