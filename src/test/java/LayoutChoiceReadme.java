import java.io.IOException;
import java.nio.file.Files;
import java.nio.file.Path;
import java.util.Map;
import java.util.regex.Matcher;
import java.util.regex.Pattern;

/** Makes the calls of README.md and compares each answer with the number written beside it. */
public final class LayoutChoiceReadme {
    private static final Pattern CALL = Pattern.compile("page\\.(\\w+)\\(([^)]*)\\);\\s*//\\s*(.*)");
    private static final Pattern ANSWER = Pattern.compile("(-?\\d+)(:.*)?");
    private static final Map<String, Integer> CODES = Map.of(
            "LayoutChoice.TEXT", LayoutChoice.TEXT,
            "LayoutChoice.BESIDE", LayoutChoice.BESIDE,
            "LayoutChoice.BELOW", LayoutChoice.BELOW,
            "LayoutChoice.INDENT", LayoutChoice.INDENT,
            "LayoutChoice.EITHER", LayoutChoice.EITHER);

    private static final LayoutChoice PAGE = new LayoutChoice();
    private static int wrong = 0;
    private static int compared = 0;

    public static void main(String[] args) throws IOException {
        for (String line : Files.readAllLines(Path.of("README.md"))) {
            if (line.startsWith("page.")) {
                follow(line);
            }
        }
        // A README whose calls are not found must not pass for one whose calls are all right.
        if (compared < 10) {
            complain("README.md has only " + compared + " calls with an answer");
        }
        System.out.println(wrong == 0 ? "all answers are as due" : wrong + " answers are not as due");
        if (wrong != 0) {
            System.exit(1);
        }
    }

    private static void complain(String what) {
        wrong++;
        System.out.println(what);
    }

    private static void follow(String line) {
        Matcher call = CALL.matcher(line);
        if (!call.matches()) {
            complain("not read: " + line);
            return;
        }
        if (call.group(1).equals("clear")) {
            PAGE.clear();
            return;
        }
        Matcher due = ANSWER.matcher(call.group(3));
        if (!due.matches()) {
            complain("no answer is written beside: " + line);
            return;
        }
        compared++;
        int got = answer(call.group(1), numbers(call.group(2)));
        if (got != Integer.parseInt(due.group(1))) {
            complain("answered " + got + ": " + line);
        }
    }

    private static int[] numbers(String arguments) {
        String[] parts = arguments.split(", ");
        int[] numbers = new int[parts.length];
        for (int i = 0; i < parts.length; i++) {
            numbers[i] = CODES.containsKey(parts[i]) ? CODES.get(parts[i]) : Integer.parseInt(parts[i]);
        }
        return numbers;
    }

    private static int answer(String name, int[] n) {
        return switch (name) {
            case "token" -> PAGE.token(n[0], n[1]);
            case "lines" -> PAGE.lines(n[0], n[1]);
            case "width" -> PAGE.width(n[0], n[1]);
            case "cost" -> PAGE.cost(n[0], n[1], n[2]);
            case "best" -> PAGE.best(n[0]);
            case "last" -> PAGE.last(n[0], n[1], n[2]);
            default -> throw new IllegalStateException("no such call: " + name);
        };
    }
}
