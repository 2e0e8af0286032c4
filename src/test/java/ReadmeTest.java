import java.nio.charset.StandardCharsets;
import java.nio.file.Files;
import java.nio.file.Path;
import java.util.HashMap;
import java.util.Map;
import java.util.regex.Matcher;
import java.util.regex.Pattern;

/** Each call of README.md answers what stands beside it there. */
public final class ReadmeTest {
    private static final Pattern CALL = Pattern.compile("(?:int (\\w+) = )?x\\.(\\w+)\\((.*)\\); +// (-?\\d+)(?::.*)?");

    private final Due due = new Due();
    private final MangleKin x = new MangleKin();
    private final Map<String, Integer> named = new HashMap<>();

    public static void main(String[] args) throws Exception {
        ReadmeTest t = new ReadmeTest();
        String readme = Files.readString(Path.of("README.md"), StandardCharsets.UTF_8);
        int begin = readme.indexOf("```java\n") + "```java\n".length();
        String[] lines = readme.substring(begin, readme.indexOf("```", begin)).split("\n");
        t.due.so("it begins with a new object", lines[0].equals("MangleKin x = new MangleKin();"));
        for (int k = 1; k < lines.length; k++) {
            if (!lines[k].isEmpty()) {
                t.line(lines[k]);
            }
        }
        t.due.end("ReadmeTest");
    }

    private void line(String line) throws Exception {
        Matcher call = CALL.matcher(line);
        due.so("a call and its answer: " + line, call.matches());
        String[] words = call.group(3).isEmpty() ? new String[0] : call.group(3).split(", ");
        Class<?>[] types = new Class<?>[words.length];
        Object[] values = new Object[words.length];
        for (int k = 0; k < words.length; k++) {
            types[k] = int.class;
            values[k] = named.containsKey(words[k]) ? named.get(words[k]) : Integer.decode(words[k]);
        }
        Object answer = MangleKin.class.getMethod(call.group(2), types).invoke(x, values);
        due.due("README: " + line, ((Number) answer).longValue(), Long.parseLong(call.group(4)));
        if (call.group(1) != null) {
            named.put(call.group(1), ((Number) answer).intValue());
        }
    }
}
