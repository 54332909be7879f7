import java.io.IOException;
import java.lang.reflect.Field;
import java.lang.reflect.Method;
import java.lang.reflect.Modifier;
import java.nio.file.Files;
import java.nio.file.Path;
import java.util.regex.Matcher;
import java.util.regex.Pattern;

/** README.md: its examples answer what they say, its tables have every call and every answer, its tests are there. */
public final class ReadmeTest {
    private static final Dues DUES = new Dues();
    private static final Pattern CALL = Pattern.compile("^boat\\.(\\w+)\\((.*?)\\);\\s+// (-?\\d+)(: ([A-Z]+)\\b)?");
    private static final Pattern TEXT = Pattern.compile("\"(.*)\"\\.toCharArray");
    private static GossipBoat boat = null;
    private static int answered = 0;

    public static void main(String[] args) throws Exception {
        String page = Files.readString(Path.of("README.md"));
        Matcher blocks = Pattern.compile("(?s)```java\n(.*?)```").matcher(page);
        while (blocks.find()) {
            for (String line : blocks.group(1).split("\n")) {
                step(line);
            }
        }
        DUES.holds("examples are there", answered > 0);
        calls(page);
        answers(page);
        tests(page);
        DUES.end();
    }

    private static void step(String line) throws Exception {
        Matcher call = CALL.matcher(line);
        Matcher text = TEXT.matcher(line);
        if (line.contains("new GossipBoat()")) {
            boat = new GossipBoat();
        } else if (text.find()) {
            for (char letter : text.group(1).toCharArray()) {
                boat.type(letter);
            }
        } else if (call.find()) {
            answered++;
            DUES.due(line, ask(call.group(1), call.group(2)), Integer.parseInt(call.group(3)));
            if (call.group(5) != null) {
                DUES.due(line, number(call.group(5)), Integer.parseInt(call.group(3)));
            }
        } else {
            DUES.holds("an example's line without an answer: " + line, line.equals("}") || line.equals("    boat.type(letter);"));
        }
    }

    private static int ask(String name, String told) throws Exception {
        String[] parts = told.isEmpty() ? new String[0] : told.split(", ");
        for (Method m : GossipBoat.class.getMethods()) {
            if (m.getName().equals(name) && m.getParameterCount() == parts.length) {
                Object[] args = new Object[parts.length];
                for (int k = 0; k < parts.length; k++) {
                    int v = number(parts[k].replace("GossipBoat.", ""));
                    args[k] = m.getParameterTypes()[k] == long.class ? (Object) (long) v : (Object) v;
                }
                return (Integer) m.invoke(boat, args);
            }
        }
        throw new IllegalStateException("no call " + name + " of " + told);
    }

    private static int number(String word) throws Exception {
        return word.matches("-?\\d+") ? Integer.parseInt(word) : GossipBoat.class.getField(word).getInt(null);
    }

    private static void calls(String page) {
        for (Method m : GossipBoat.class.getDeclaredMethods()) {
            if (Modifier.isPublic(m.getModifiers())) {
                DUES.holds("a row has " + m.getName(), Pattern.compile("(?m)^\\|[^|]*`" + m.getName() + "`[^|]*\\|").matcher(page).find());
            }
        }
    }

    private static void answers(String page) throws Exception {
        for (Field f : GossipBoat.class.getFields()) {
            DUES.holds("a row has " + f.getName(), page.contains("| `" + f.getName() + "` | " + f.getInt(null) + " | "));
        }
    }

    private static void tests(String page) throws IOException {
        try (var files = Files.list(Path.of("src/test/java"))) {
            for (Path file : (Iterable<Path>) files::iterator) {
                String name = file.getFileName().toString().replace(".java", "");
                DUES.holds("the page tells of " + name, !name.endsWith("Test") || page.contains("\n- `" + name + "`"));
            }
        }
    }
}
