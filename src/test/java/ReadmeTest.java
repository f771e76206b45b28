import java.io.IOException;
import java.nio.file.Files;
import java.nio.file.Path;
import java.util.List;
import java.util.regex.Matcher;
import java.util.regex.Pattern;

/** What README.md says that the calls of its example answer is what they answer. */
public final class ReadmeTest {
    private static final Checks CHECKS = new Checks("ReadmeTest");
    private static final Pattern MAKING = Pattern.compile("StepMap map = new StepMap\\((-?\\d+)\\);");
    private static final Pattern CALL =
            Pattern.compile("map\\.(\\w+)\\((-?\\d+)?(?:, (-?\\d+))?\\); +// ([^\\s:]+)(?:: .+)?");

    public static void main(String[] args) throws IOException {
        LimitedMap map = null;
        for (String line : example(Files.readString(Path.of("README.md")))) {
            Matcher making = MAKING.matcher(line);
            Matcher call = CALL.matcher(line);
            if (making.matches()) {
                map = new LimitedMap(Integer.parseInt(making.group(1)));
            } else if (call.matches() && map != null) {
                String got = answer(map, call.group(1), number(call.group(2)), number(call.group(3)));
                CHECKS.due("\"" + line + "\" (it is " + got + ")", got.equals(call.group(4)), true);
            } else {
                CHECKS.due("\"" + line + "\" is a line that can be tried", line.isBlank(), true);
            }
        }
        CHECKS.end();
    }

    private static List<String> example(String readme) {
        String begin = "```java\n";
        int from = readme.indexOf(begin) + begin.length();
        return readme.substring(from, readme.indexOf("```", from)).lines().toList();
    }

    private static int number(String text) {
        return text == null ? 0 : Integer.parseInt(text);
    }

    private static String answer(LimitedMap map, String name, int k, int v) {
        return switch (name) {
            case "put" -> String.valueOf(map.put(k, v));
            case "get" -> String.valueOf(map.get(k));
            case "has" -> String.valueOf(map.has(k));
            case "remove" -> String.valueOf(map.remove(k));
            case "size" -> String.valueOf(map.size());
            case "capacity" -> String.valueOf(map.capacity());
            case "migrating" -> String.valueOf(map.migrating());
            case "lastWork" -> String.valueOf(map.lastWork());
            case "slot" -> String.valueOf(map.slot(k));
            case "cursor" -> String.valueOf(map.cursor());
            default -> "no call of StepMap";
        };
    }
}
