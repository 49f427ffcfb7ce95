import java.io.IOException;
import java.lang.reflect.Executable;
import java.lang.reflect.Field;
import java.lang.reflect.Method;
import java.lang.reflect.Modifier;
import java.nio.file.Files;
import java.nio.file.Path;
import java.util.Arrays;
import java.util.List;
import java.util.Set;
import java.util.TreeSet;
import java.util.regex.Matcher;
import java.util.regex.Pattern;

/** The face as the document has it, and those rules of LANGUAGE.md that can be looked up. */
public final class LanguageTest {
    private static final Path SOURCE = Path.of("src/main/java/Percolated.java");
    private static final Path DOCUMENT = Path.of("../shared/DOC.md");
    private static final String[] RULED_OUT = {
        "\\b(throw|throws|try|catch|synchronized|assert|import|package|record|protected|volatile|native)\\b",
        "\\b(Thread|Random|System\\.(?!arraycopy)|Object|Exception|Error|hashCode|equals|toString)\\b",
        "\\b\\w+Exact\\b", "->", "::", "\"", "@", "\\bwhile\\s*\\(true\\)", "for\\s*\\(;",
    };

    private static final Due D = new Due();

    private LanguageTest() {
    }

    public static void main(String[] args) throws IOException {
        face();
        classes();
        text();
        D.end("LanguageTest");
    }

    private static void holds(String what, boolean so) {
        D.due(what, so ? 1 : 0, 1);
    }

    private static void face() throws IOException {
        Set<String> wanted = new TreeSet<>();
        Matcher line = Pattern.compile("(?m)^    public (int|long) (\\w+)\\((.*)\\);$").matcher(Files.readString(DOCUMENT));
        while (line.find()) {
            String types = line.group(3).replaceAll(" \\w+(,|$)", "$1").replace(" ", "");
            wanted.add(line.group(1) + " " + line.group(2) + "(" + types + ")");
        }
        Set<String> found = new TreeSet<>();
        Set<String> hidden = new TreeSet<>();
        for (Method m : Percolated.class.getDeclaredMethods()) {
            String types = String.join(",", Arrays.stream(m.getParameterTypes()).map(Class::getName).toList());
            if (Modifier.isPublic(m.getModifiers())) {
                found.add(m.getReturnType() + " " + m.getName() + "(" + types + ")");
            } else {
                holds("rule 1: private is " + m, Modifier.isPrivate(m.getModifiers()));
                hidden.add(m.getName());
            }
        }
        holds("rule 1: the face is " + wanted + " but there is " + found, wanted.equals(found) && found.size() == 39);
        for (Method m : Percolated.class.getDeclaredMethods()) {
            holds("rule 1: a name twice: " + m, !(Modifier.isPublic(m.getModifiers()) && hidden.contains(m.getName())));
        }
        holds("rule 1: one public constructor", Percolated.class.getDeclaredConstructors().length == 1
            && Percolated.class.getConstructors().length == 1);
        holds("rule 1: public and final", Percolated.class.getModifiers() == (Modifier.PUBLIC | Modifier.FINAL));
    }

    private static void classes() {
        Class<?>[] inside = Percolated.class.getDeclaredClasses();
        holds("rule 11: twelve classes", inside.length < 12);
        look(Percolated.class);
        for (Class<?> c : inside) {
            holds("rule 2: static is " + c, Modifier.isStatic(c.getModifiers()) && !Modifier.isPublic(c.getModifiers()));
            look(c);
        }
    }

    private static void look(Class<?> c) {
        int fields = 0;
        for (Field f : c.getDeclaredFields()) {
            boolean constant = Modifier.isStatic(f.getModifiers());
            holds("rule 5: final is " + f, !constant || Modifier.isFinal(f.getModifiers()));
            holds("rule 1: not public is " + f, !Modifier.isPublic(f.getModifiers()));
            fields += constant ? 0 : 1;
        }
        holds("rule 11: twenty fields in " + c, fields <= 20);
        for (Executable e : c.getDeclaredMethods()) {
            holds("rule 11: seven parameters of " + e, e.getParameterCount() <= 7);
        }
    }

    private static void text() throws IOException {
        String source = Files.readString(SOURCE);
        String code = source.replaceAll("(?s)/\\*.*?\\*/", "").replaceAll("//.*", "");
        holds("only signs 1 to 127", source.chars().allMatch(c -> c >= 1 && c <= 127));
        for (String pattern : RULED_OUT) {
            Matcher m = Pattern.compile(pattern).matcher(code);
            holds("ruled out: " + pattern + " found", !m.find());
        }
        List<String> lines = Files.readAllLines(SOURCE);
        for (int i = 0; i < lines.size(); i++) {
            String line = lines.get(i);
            boolean makes = line.matches(".*\\bnew \\w.*");
            holds("the room: made outside a field or constructor at line " + (i + 1),
                !makes || line.contains("private final") || line.contains("kept[i] = new Parish()"));
            if (line.matches("( {4}| {8})(?!if|for|switch|while)\\S.*\\) \\{")) {
                String end = line.replaceAll("\\S.*", "") + "}";
                int last = i;
                while (!lines.get(last).equals(end)) {
                    last++;
                }
                holds("rule 11: a method of more than sixty lines at line " + (i + 1), last - i < 60);
            }
        }
    }
}
