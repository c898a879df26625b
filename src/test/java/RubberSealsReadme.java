import java.io.IOException;
import java.lang.reflect.Method;
import java.lang.reflect.Modifier;
import java.nio.file.Files;
import java.nio.file.Path;
import java.util.List;
import java.util.regex.Matcher;
import java.util.regex.Pattern;

/** What README.md tells about using the class: the answers of its example, and every call's name. */
public final class RubberSealsReadme extends Bench {
    private static final Pattern ITEMS = Pattern.compile("String items = \"(.*)\";.*");
    private static final Pattern CALL = Pattern.compile("x\\.(\\w+)\\((.*)\\);(?: *// (-?\\d+):.*)?");
    private static final String PUT_ALL = "for (int i = 0; i < items.length(); i++) x.put(0, i, items.charAt(i));";

    public static void main(String[] args) throws IOException {
        Path source = Path.of(args.length > 0 ? args[0] : "src/main/java/RubberSeals.java").toAbsolutePath();
        List<String> readme = Files.readAllLines(source.resolve("../../../../README.md").normalize());
        begin("the example of README.md");
        playExample(readme);
        begin("the calls that README.md names");
        nameCalls(String.join("\n", readme));
        end();
    }

    private static void playExample(List<String> readme) {
        int start = readme.indexOf("```java") + 1;
        int behind = start + readme.subList(start, readme.size()).indexOf("```");
        due("whether there is one", start > 0 && behind > start ? 1 : 0, 1);
        RubberSeals x = new RubberSeals();
        String items = "";
        for (int i = start; i < behind; i++) {
            String line = readme.get(i);
            Matcher told = ITEMS.matcher(line);
            if (told.matches()) items = told.group(1);
            else if (line.equals(PUT_ALL)) putAll(x, items);
            else if (line.startsWith("x.")) playLine(x, line.replace("items.length()", "" + items.length()));
            else due(line, i - start, 0);
        }
    }

    private static void putAll(RubberSeals x, String items) {
        for (int i = 0; i < items.length(); i++) x.put(0, i, items.charAt(i));
    }

    private static void playLine(RubberSeals x, String line) {
        Matcher one = CALL.matcher(line);
        boolean answered = one.matches() && one.group(3) != null;
        due("whether an answer stands behind " + line, answered ? 1 : 0, 1);
        if (!answered) return;
        String numbers = one.group(2).replace(",", "");
        due(x, numbers.isEmpty() ? one.group(1) : one.group(1) + " " + numbers, Long.parseLong(one.group(3)));
    }

    private static void nameCalls(String readme) {
        for (Method m : RubberSeals.class.getDeclaredMethods()) {
            String quoted = "`" + m.getName() + "`";
            boolean isCall = Modifier.isPublic(m.getModifiers());
            if (isCall) due("whether it names " + quoted, readme.contains(quoted) ? 1 : 0, 1);
        }
    }
}
