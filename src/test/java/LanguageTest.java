import java.lang.reflect.Constructor;
import java.lang.reflect.Field;
import java.lang.reflect.Method;
import java.lang.reflect.Modifier;
import java.nio.file.Files;
import java.nio.file.Path;
import java.util.Set;
import java.util.TreeSet;
import java.util.regex.Pattern;

/** The face of the class, and what of LANGUAGE.md can be seen in its text. */
public final class LanguageTest {
    private static final String[] FACE = {
        "int type(long,int)", "int clear()", "int law()", "int tree()", "int rule(int,int)", "int turn(int,int)",
        "int good(int,int)", "int node(int,int)", "int sign(int,int)", "int exchange(int)", "int isGood()",
        "int runs()", "int places(int)", "int mend(int)", "int sets()", "int classes()", "int useful()",
        "int least(int)", "long many(int)", "int alike(int)", "int apart(int,int)", "long both(int,int)",
        "int mark(int,int)", "int keep(int)", "int back(int)", "int count(int)", "long trace()"};
    private static final String[] RULED_OUT = {
        "throw", "throws", "try", "catch", "finally", "synchronized", "assert", "import", "package", "protected",
        "volatile", "native", "transient", "System", "Object", "Thread", "Random", "hashCode", "equals", "toString",
        "getClass", "var"};
    private static final String CONSTRUCTOR = "public TreeBecomes() {";
    private static final Pattern MAKES = Pattern.compile("\\bnew\\b|\\bclone\\b|\\bcopyOf");
    private static final int MOST_LINES = 60;
    private static final int MOST_FIELDS = 20;
    private static final int MOST_CLASSES = 12;

    public static void main(String[] args) throws Exception {
        face();
        classes();
        String code = withoutRemarks(Files.readString(Path.of(System.getProperty("treebecomes.source",
            "src/main/java/TreeBecomes.java"))));
        words(code);
        methods(code);
        Due.finish("LanguageTest");
    }

    private static void face() {
        Class<?> c = TreeBecomes.class;
        Due.holds("public and final", Modifier.isPublic(c.getModifiers()) && Modifier.isFinal(c.getModifiers()));
        Set<String> due = new TreeSet<>(Set.of(FACE));
        Set<String> names = new TreeSet<>();
        Set<String> found = new TreeSet<>();
        for (Method m : c.getDeclaredMethods()) {
            if (Modifier.isPublic(m.getModifiers()) && !Modifier.isStatic(m.getModifiers())) {
                String s = m.toString().replace("TreeBecomes.", "").replace("public ", "");
                found.add(s);
                names.add(m.getName());
            } else {
                Due.holds("private " + m, Modifier.isPrivate(m.getModifiers()) || m.isSynthetic());
            }
        }
        Due.holds("the face " + found, found.equals(due));
        for (Method m : c.getDeclaredMethods()) {
            Due.holds("name of " + m, !Modifier.isPrivate(m.getModifiers()) || !names.contains(m.getName()));
        }
        Constructor<?>[] made = c.getDeclaredConstructors();
        Due.holds("constructor", made.length == 1 && Modifier.isPublic(made[0].getModifiers())
            && made[0].getParameterCount() == 0);
        Set<String> shown = new TreeSet<>();
        for (Field f : c.getDeclaredFields()) {
            if (!Modifier.isPrivate(f.getModifiers())) {
                shown.add(f.getName());
            }
        }
        Due.holds("constants " + shown, shown.equals(Set.of("BAD", "STATE", "FULL", "NONE", "NO")));
        for (Class<?> inner : c.getDeclaredClasses()) {
            for (Method m : inner.getDeclaredMethods()) {
                Due.holds("name of " + m, !names.contains(m.getName()));
            }
        }
    }

    private static void classes() {
        Class<?>[] inner = TreeBecomes.class.getDeclaredClasses();
        Due.holds("classes", inner.length + 1 <= MOST_CLASSES);
        fields(TreeBecomes.class);
        for (Class<?> c : inner) {
            Due.holds("static " + c, Modifier.isStatic(c.getModifiers()));
            fields(c);
            for (Method m : c.getDeclaredMethods()) {
                Due.holds("parameters of " + m, m.getParameterCount() <= 7);
            }
        }
    }

    private static void fields(Class<?> c) {
        int own = 0;
        for (Field f : c.getDeclaredFields()) {
            boolean isStatic = Modifier.isStatic(f.getModifiers());
            own += isStatic ? 0 : 1;
            Due.holds("static is final: " + f, !isStatic || Modifier.isFinal(f.getModifiers()));
        }
        Due.holds("fields of " + c + ": " + own, own <= MOST_FIELDS);
    }

    private static String withoutRemarks(String code) {
        return code.replaceAll("(?s)/\\*.*?\\*/", "").replaceAll("//[^\n]*", "");
    }

    private static void words(String code) {
        Set<String> used = new TreeSet<>();
        for (String word : code.split("[^A-Za-z0-9_]+")) {
            used.add(word);
        }
        for (String word : RULED_OUT) {
            Due.holds("no word " + word, !used.contains(word));
        }
        Due.holds("no lambda", !code.contains("->"));
        Due.holds("no method reference", !code.contains("::"));
        Due.holds("no text", !code.contains("\""));
        for (char c : code.toCharArray()) {
            if (c > 126) {
                Due.holds("sign " + (int) c, false);
            }
        }
    }

    /**
     * Methods are short, and make nothing: what an object needs is made when it is made.
     * A method begins with a line that ends in ") {" at a depth of one or two.
     */
    private static void methods(String code) {
        String[] lines = code.split("\n");
        int began = -1;
        int indent = 0;
        int found = 0;
        for (int k = 0; k < lines.length; k++) {
            String line = lines[k];
            int spaces = line.length() - line.stripLeading().length();
            boolean isHead = line.endsWith(") {") && (spaces == 4 || spaces == 8) && began < 0;
            if (isHead) {
                began = k;
                indent = spaces;
                found++;
            } else if (began >= 0 && spaces == indent && line.strip().equals("}")) {
                Due.holds("length of " + lines[began].strip(), k - began < MOST_LINES);
                began = -1;
            } else if (began >= 0 && !lines[began].strip().equals(CONSTRUCTOR)) {
                Due.holds("makes nothing: " + line.strip(), !MAKES.matcher(line).find());
            }
        }
        Due.holds("methods were found: " + found, found > FACE.length);
    }
}
