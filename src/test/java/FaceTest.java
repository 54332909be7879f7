import java.io.IOException;
import java.lang.reflect.Constructor;
import java.lang.reflect.Field;
import java.lang.reflect.Method;
import java.lang.reflect.Modifier;
import java.nio.file.Files;
import java.nio.file.Path;
import java.util.ArrayList;
import java.util.Arrays;
import java.util.List;
import java.util.Set;
import java.util.TreeSet;
import java.util.regex.Matcher;
import java.util.regex.Pattern;

/** The face as the document tells it, and what of LANGUAGE.md shows from outside or in the text. */
public final class FaceTest {
    private static final Dues DUES = new Dues();
    private static final String[] METHODS = {
        "cell int", "person int int", "saying int int", "ice int", "of int int", "at int int", "rocks int int", "frost int",
        "type int", "canal", "count int", "say int", "thaw int int", "mind int int", "drift int", "undo", "seed int", "rock int",
        "next int", "greedy int int", "through", "plan int int", "crew int int int", "minds int int", "once int",
        "sway int int int", "boats int", "ring int", "enough int", "sick int int int", "image", "restore",
        "felt int int int int int", "film int int int int int", "sheet int int int", "drop int", "item int int int long",
        "copy int int int int int",
    };
    private static final String[] CONSTANTS = {"BAD", "NOT", "FULL", "NONE", "NULL", "CAST", "INDEX", "SIZE"};
    private static final int[] VALUES = {-1, -2, -3, -4, -11, -12, -13, -14};
    private static final String[] RULED_OUT = {
        "\\bimport\\b", "\\bpackage\\b", "->", "::", "\\bcatch\\b", "\\bthrow\\b", "\\bfinally\\b", "\\bsynchronized\\b", "\\bassert\\b",
        "Exact\\b", "\\btoString\\b", "\\bhashCode\\b", "\\bfloat\\b", "\\bdouble\\b", "\\bSystem\\.(?!arraycopy\\b)", "\\bstatic \\{",
        "\\bMAX_VALUE\\b", "\\bMIN_VALUE\\b", "[^\\x00-\\x7f]",
    };

    public static void main(String[] args) throws Exception {
        face();
        constants();
        inside(GossipBoat.class);
        for (Class<?> c : GossipBoat.class.getDeclaredClasses()) {
            inside(c);
            DUES.holds(c + " is static", Modifier.isStatic(c.getModifiers()));
            DUES.holds(c + " is not public or protected", (c.getModifiers() & (Modifier.PUBLIC | Modifier.PROTECTED)) == 0);
        }
        DUES.holds("some twelve classes", GossipBoat.class.getDeclaredClasses().length <= 12);
        text();
        DUES.end();
    }

    private static void face() {
        int modifiers = GossipBoat.class.getModifiers();
        DUES.holds("public and final", Modifier.isPublic(modifiers) && Modifier.isFinal(modifiers));
        Set<String> shown = new TreeSet<>();
        Set<String> hidden = new TreeSet<>();
        for (Method m : GossipBoat.class.getDeclaredMethods()) {
            if (Modifier.isPrivate(m.getModifiers())) {
                hidden.add(m.getName());
                continue;
            }
            StringBuilder b = new StringBuilder(m.getName());
            for (Class<?> p : m.getParameterTypes()) {
                b.append(' ').append(p.getName());
            }
            shown.add(b.toString());
            DUES.holds(m + " is public, of the object, answers an int", m.getModifiers() == Modifier.PUBLIC && m.getReturnType() == int.class);
        }
        DUES.holds("the methods are the document's: " + shown, shown.equals(new TreeSet<>(Arrays.asList(METHODS))));
        for (String s : METHODS) {
            DUES.holds("no private method is named " + s, !hidden.contains(s.split(" ")[0]));
        }
        Constructor<?>[] made = GossipBoat.class.getDeclaredConstructors();
        DUES.holds("one public constructor", made.length == 1 && Modifier.isPublic(made[0].getModifiers()) && made[0].getParameterCount() == 0);
    }

    private static void constants() throws Exception {
        Set<String> shown = new TreeSet<>();
        for (Field f : GossipBoat.class.getDeclaredFields()) {
            if (!Modifier.isPrivate(f.getModifiers())) {
                shown.add(f.getName());
            }
        }
        DUES.holds("the constants are the document's: " + shown, shown.equals(new TreeSet<>(Arrays.asList(CONSTANTS))));
        for (int k = 0; k < CONSTANTS.length; k++) {
            Field f = GossipBoat.class.getDeclaredField(CONSTANTS[k]);
            DUES.holds(f + " is public static final", f.getModifiers() == (Modifier.PUBLIC | Modifier.STATIC | Modifier.FINAL));
            DUES.due(CONSTANTS[k], f.getInt(null), VALUES[k]);
        }
    }

    private static void inside(Class<?> c) {
        int own = 0;
        for (Field f : c.getDeclaredFields()) {
            if (Modifier.isStatic(f.getModifiers())) {
                DUES.holds(f + " is final", Modifier.isFinal(f.getModifiers()));
            } else {
                own++;
            }
        }
        DUES.holds(c + " has some twenty fields at most", own <= 20);
        for (Method m : c.getDeclaredMethods()) {
            DUES.holds(m + " takes seven parameters at most", m.getParameterCount() <= 7);
        }
    }

    private static void text() throws IOException {
        String source = Files.readString(Path.of("src/main/java/GossipBoat.java"));
        String code = source.replaceAll("(?s)/\\*.*?\\*/", "").replaceAll("//[^\n]*", "");
        for (String word : RULED_OUT) {
            Matcher m = Pattern.compile(word).matcher(code);
            DUES.holds("nothing like " + word, !m.find());
        }
        for (String name : longMethods(source)) {
            DUES.holds("short enough: " + name, false);
        }
    }

    private static List<String> longMethods(String source) {
        List<String> found = new ArrayList<>();
        Pattern head = Pattern.compile("^( +)(?!.*\\b(class|new|return|else)\\b)\\w.*\\(.*\\) \\{$");
        String[] lines = source.split("\n");
        for (int k = 0; k < lines.length; k++) {
            Matcher m = head.matcher(lines[k]);
            if (m.matches()) {
                int end = k;
                while (end < lines.length && !lines[end].equals(m.group(1) + "}")) {
                    end++;
                }
                if (end - k > 60) {
                    found.add(lines[k].trim());
                }
            }
        }
        return found;
    }
}
