import java.io.IOException;
import java.nio.file.Files;
import java.nio.file.Path;
import java.util.ArrayList;
import java.util.List;
import java.util.regex.Matcher;
import java.util.regex.Pattern;

/** README.md is held against the class: its example is done line by line, and it tells of each call of the face. */
public final class ReadmeTest {
    private static final Pattern MADE = Pattern.compile("CoatedBridges sea = new CoatedBridges\\(\\);");
    private static final Pattern TYPED =
        Pattern.compile("for \\(char sign : \"([^\"]+)\"\\.toCharArray\\(\\)\\) sea\\.type\\(sign\\);");
    private static final Pattern CALLED =
        Pattern.compile("sea\\.(\\w+)\\(([-0-9, ]*)\\);\\s+// (-?\\d+|[A-Z]+_[A-Z]+)\\b.*");

    private static CoatedBridges sea;

    public static void main(String[] args) throws IOException {
        String readme = Files.readString(Path.of("README.md"));
        theExample(readme);
        eachCallIsTold(readme);
        Check.end();
    }

    private static void theExample(String readme) {
        Check.sentence("README.md, its example");
        int called = 0;
        for (String line : exampleOf(readme)) {
            called += done(line) ? 1 : 0;
        }
        Check.due("calls of the example with an answer", called >= 10 ? 1 : 0, 1);
    }

    private static List<String> exampleOf(String readme) {
        List<String> lines = new ArrayList<>();
        Matcher block = Pattern.compile("(?s)```java\n(.*?)```").matcher(readme);
        while (block.find()) {
            for (String line : block.group(1).split("\n")) {
                if (!line.isBlank()) {
                    lines.add(line.strip());
                }
            }
        }
        return lines;
    }

    /** Tells whether the line is a call with the answer that is due behind it. */
    private static boolean done(String line) {
        Matcher typed = TYPED.matcher(line);
        Matcher called = CALLED.matcher(line);
        if (MADE.matcher(line).matches()) {
            sea = new CoatedBridges();
        } else if (typed.matches()) {
            for (char sign : typed.group(1).toCharArray()) {
                sea.type(sign);
            }
        } else if (called.matches()) {
            Check.due(line, answer(called.group(1), called.group(2)), number(called.group(3)));
            return true;
        } else {
            Check.due("a line that can be read: " + line, 0, 1);
        }
        return false;
    }

    private static int answer(String name, String arguments) {
        String[] words = arguments.isBlank() ? new String[0] : arguments.split(", *");
        Object[] numbers = new Object[words.length];
        Class<?>[] types = new Class<?>[words.length];
        for (int i = 0; i < words.length; i++) {
            numbers[i] = Integer.valueOf(words[i]);
            types[i] = int.class;
        }
        try {
            return (int) CoatedBridges.class.getMethod(name, types).invoke(sea, numbers);
        } catch (ReflectiveOperationException e) {
            throw new IllegalStateException("no such call: " + name, e);
        }
    }

    private static int number(String told) {
        switch (told) {
            case "INVALID_ARGUMENT": return Check.INVALID;
            case "NOT_POSSIBLE": return Check.NOT_POSSIBLE;
            case "LIMIT_REACHED": return Check.LIMIT;
            case "NOT_FOUND": return Check.NOT_FOUND;
            default: return Integer.parseInt(told);
        }
    }

    private static void eachCallIsTold(String readme) {
        Check.sentence("README.md tells how the class is used");
        for (String call : FaceTest.calls()) {
            Check.due("README.md with `" + call + "`", readme.contains("`" + call + "`") ? 1 : 0, 1);
        }
    }
}
