import java.lang.reflect.Method;
import java.nio.file.Files;
import java.nio.file.Path;
import java.util.List;
import java.util.regex.Matcher;
import java.util.regex.Pattern;

/** The example of README.md: each call there answers the number that is written behind it. */
public final class ReadmeTest {
    private static final Check check = new Check();
    private static final Pattern TEXT = Pattern.compile("for \\(char c : \"(.*)\"\\.toCharArray.*");
    private static final Pattern TYPED = Pattern.compile(" *desk\\.type\\(([01]), c\\);");
    private static final Pattern CALL =
            Pattern.compile("desk\\.(\\w+)\\((.*?)\\); *(?:// (-?\\d+)\\b.*)?");
    private static final int ANSWERED_CALLS = 14;

    public static void main(String[] args) throws Exception {
        SchemaDesk desk = new SchemaDesk();
        String text = "";
        int answered = 0;
        for (String line : example()) {
            Matcher said = TEXT.matcher(line);
            Matcher typed = TYPED.matcher(line);
            Matcher call = CALL.matcher(line);
            if (said.matches()) {
                text = said.group(1).replace("\\\"", "\"");
            } else if (typed.matches()) {
                Check.fill(desk, Integer.parseInt(typed.group(1)), text);
            } else if (call.matches()) {
                Object got = call(desk, call.group(1), call.group(2));
                if (call.group(3) != null) {
                    answered++;
                    check.same(line, got, Integer.valueOf(call.group(3)));
                }
            }
        }
        check.same("calls with an answer", answered, ANSWERED_CALLS);
        check.end();
    }

    private static List<String> example() throws Exception {
        List<String> lines = Files.readAllLines(Path.of("README.md"));
        int first = lines.indexOf("```java") + 1;
        List<String> rest = lines.subList(first, lines.size());
        return rest.subList(0, rest.indexOf("```"));
    }

    private static Object call(SchemaDesk desk, String name, String written) throws Exception {
        for (Method method : SchemaDesk.class.getMethods()) {
            if (method.getName().equals(name)) {
                return method.invoke(desk, arguments(written));
            }
        }
        throw new AssertionError("no method " + name);
    }

    private static Object[] arguments(String written) {
        String[] parts = written.isEmpty() ? new String[0] : written.split(", ");
        Object[] all = new Object[parts.length];
        for (int k = 0; k < parts.length; k++) {
            boolean isCharacter = parts[k].startsWith("'");
            if (isCharacter) {
                all[k] = parts[k].charAt(1);
            } else {
                all[k] = Integer.valueOf(parts[k]);
            }
        }
        return all;
    }
}
