import java.io.IOException;
import java.lang.reflect.Constructor;
import java.lang.reflect.Field;
import java.lang.reflect.Method;
import java.lang.reflect.Modifier;
import java.nio.file.Files;
import java.nio.file.Path;
import java.util.ArrayList;
import java.util.Arrays;
import java.util.List;
import java.util.Set;
import java.util.TreeSet;
import java.util.regex.Matcher;
import java.util.regex.Pattern;

/** The face as the document tells it, and what of LANGUAGE.md shows from outside or in the text. */
public final class FaceTest {
    private static final Dues DUES = new Dues();
    private static final int CALLS = 38;
    private static final String[] CONSTANTS = {"BAD", "NOT", "FULL", "NONE", "NULL", "CAST", "INDEX", "SIZE"};
    private static final int[] VALUES = {-1, -2, -3, -4, -11, -12, -13, -14};
    private static final Path DOCUMENT = Path.of("../shared/DOC.md"), CLASS = Path.of("src/main/java/GossipBoat.java");
    private static final String[] RULED_OUT = {
        "\\bimport\\b", "\\bpackage\\b", "->", "::", "\\bcatch\\b", "\\bthrow\\b", "\\bfinally\\b", "\\bsynchronized\\b", "\\bassert\\b",
        "Exact\\b", "\\btoString\\b", "\\bhashCode\\b", "\\bfloat\\b", "\\bdouble\\b", "\\bSystem\\.(?!arraycopy\\b)", "\\bstatic \\{",
        "\\bMAX_VALUE\\b", "\\bMIN_VALUE\\b", "[^\\x00-\\x7f]",
    };

    public static void main(String[] args) throws Exception {
        face();
        faceInText();
        constants();
        inside(GossipBoat.class);
        Set<String> calls = documentCalls();
        privateNames(GossipBoat.class, calls);
        for (Class<?> c : GossipBoat.class.getDeclaredClasses()) {
            inside(c);
            privateNames(c, calls);
            DUES.holds(c + " is static", Modifier.isStatic(c.getModifiers()));
            DUES.holds(c + " is not public or protected", (c.getModifiers() & (Modifier.PUBLIC | Modifier.PROTECTED)) == 0);
        }
        DUES.holds("some twelve classes", GossipBoat.class.getDeclaredClasses().length <= 12);
        text();
        DUES.end();
    }

    /** The lines of 'The public face', without the class's own. */
    private static List<String> documentFace() throws IOException {
        String document = Files.readString(DOCUMENT);
        int from = document.indexOf("```java", document.indexOf("## The public face"));
        List<String> lines = new ArrayList<>();
        for (String line : document.substring(from, document.indexOf("\n```", from)).split("\n")) {
            if (line.startsWith("    ")) {
                lines.add(line.trim());
            }
        }
        return lines;
    }

    // As the document writes it, with the parameters' names: so a reader of either knows the other.
    private static void faceInText() throws IOException {
        List<String> due = documentFace();
        Set<String> shown = new TreeSet<>();
        for (String line : Files.readString(CLASS).split("\n")) {
            if (line.startsWith("    public ")) {
                shown.add(line.trim().replaceAll(" \\{$", ";"));
            }
        }
        DUES.due("lines of the face", due.size(), CALLS + 2);
        DUES.holds("the face is the document's: " + shown, shown.equals(new TreeSet<>(due)));
        DUES.holds("the class's own line", Files.readString(CLASS).contains("\npublic final class GossipBoat {\n"));
    }

    /** The document's calls, each as its name and the types of its parameters. */
    private static Set<String> documentCalls() throws IOException {
        Set<String> calls = new TreeSet<>();
        for (String line : documentFace()) {
            Matcher m = Pattern.compile("public int (\\w+)\\((.*)\\);").matcher(line);
            if (m.matches()) {
                calls.add((m.group(1) + " " + m.group(2).replaceAll(" \\w+(, |$)", " ")).trim());
            }
        }
        return calls;
    }

    private static void face() throws IOException {
        int modifiers = GossipBoat.class.getModifiers();
        DUES.holds("public and final", Modifier.isPublic(modifiers) && Modifier.isFinal(modifiers));
        Set<String> due = documentCalls();
        Set<String> shown = new TreeSet<>();
        for (Method m : GossipBoat.class.getDeclaredMethods()) {
            if (Modifier.isPrivate(m.getModifiers())) {
                continue;
            }
            StringBuilder b = new StringBuilder(m.getName());
            for (Class<?> p : m.getParameterTypes()) {
                b.append(' ').append(p.getName());
            }
            shown.add(b.toString());
            DUES.holds(m + " is public, of the object, answers an int", m.getModifiers() == Modifier.PUBLIC && m.getReturnType() == int.class);
        }
        DUES.due("calls of the document", due.size(), CALLS);
        DUES.holds("the methods are the document's: " + shown, shown.equals(due));
        Constructor<?>[] made = GossipBoat.class.getDeclaredConstructors();
        DUES.holds("one public constructor", made.length == 1 && Modifier.isPublic(made[0].getModifiers()) && made[0].getParameterCount() == 0);
    }

    private static void privateNames(Class<?> c, Set<String> calls) {
        for (Method m : c.getDeclaredMethods()) {
            for (String call : calls) {
                boolean isLike = Modifier.isPrivate(m.getModifiers()) && m.getName().equals(call.split(" ")[0]);
                DUES.holds(m + " is private and bears the name of a public one", !isLike);
            }
        }
    }

    private static void constants() throws Exception {
        Set<String> shown = new TreeSet<>();
        for (Field f : GossipBoat.class.getDeclaredFields()) {
            if (!Modifier.isPrivate(f.getModifiers())) {
                shown.add(f.getName());
            }
        }
        DUES.holds("the constants are the document's: " + shown, shown.equals(new TreeSet<>(Arrays.asList(CONSTANTS))));
        for (int k = 0; k < CONSTANTS.length; k++) {
            Field f = GossipBoat.class.getDeclaredField(CONSTANTS[k]);
            DUES.holds(f + " is public static final", f.getModifiers() == (Modifier.PUBLIC | Modifier.STATIC | Modifier.FINAL));
            DUES.due(CONSTANTS[k], f.getInt(null), VALUES[k]);
        }
    }

    private static void inside(Class<?> c) {
        int own = 0;
        for (Field f : c.getDeclaredFields()) {
            if (Modifier.isStatic(f.getModifiers())) {
                DUES.holds(f + " is final", Modifier.isFinal(f.getModifiers()));
            } else {
                own++;
            }
        }
        DUES.holds(c + " has some twenty fields at most", own <= 20);
        for (Method m : c.getDeclaredMethods()) {
            DUES.holds(m + " takes seven parameters at most", m.getParameterCount() <= 7);
        }
    }

    private static void text() throws IOException {
        String source = Files.readString(CLASS);
        String code = source.replaceAll("(?s)/\\*.*?\\*/", "").replaceAll("//[^\n]*", "");
        for (String word : RULED_OUT) {
            Matcher m = Pattern.compile(word).matcher(code);
            DUES.holds("nothing like " + word, !m.find());
        }
        for (String name : longMethods(source)) {
            DUES.holds("short enough: " + name, false);
        }
    }

    private static List<String> longMethods(String source) {
        List<String> found = new ArrayList<>();
        Pattern head = Pattern.compile("^( +)(?!.*\\b(class|new|return|else)\\b)\\w.*\\(.*\\) \\{$");
        String[] lines = source.split("\n");
        for (int k = 0; k < lines.length; k++) {
            Matcher m = head.matcher(lines[k]);
            if (m.matches()) {
                int end = k;
                while (end < lines.length && !lines[end].equals(m.group(1) + "}")) {
                    end++;
                }
                if (end - k > 60) {
                    found.add(lines[k].trim());
                }
            }
        }
        return found;
    }
}
