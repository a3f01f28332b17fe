import java.lang.reflect.Field;
import java.lang.reflect.InvocationTargetException;
import java.lang.reflect.Method;
import java.lang.reflect.Modifier;
import java.nio.file.Files;
import java.nio.file.Path;
import java.util.Set;
import java.util.TreeSet;
import java.util.regex.Matcher;
import java.util.regex.Pattern;

/** That README.md's examples, run from its first line to its last on one object, answer as it says. */
public final class ReadmeTest {
    private static final Pattern TYPED = Pattern.compile("    typeText\\(x, \"([^\"]*)\"\\);");
    private static final Pattern ASKED = Pattern.compile("    x\\.(\\w+)\\(([^)]*)\\); +// (-?\\d+)");
    private static final int MOST_CALLS = 512;

    public static void main(String[] args) throws Exception {
        String page = Files.readString(Path.of("README.md"));
        Set<String> asked = runExamples(page);
        for (Method m : TreeBecomes.class.getDeclaredMethods()) {
            if (Modifier.isPublic(m.getModifiers())) {
                Due.holds("an example asks " + m.getName(), asked.contains(m.getName()));
                Due.holds("it tells of " + m.getName(), page.contains("`" + m.getName() + "("));
            }
        }
        for (Field f : TreeBecomes.class.getDeclaredFields()) {
            if (Modifier.isPublic(f.getModifiers())) {
                Due.holds("it tells of " + f.getName(),
                    page.contains("`" + f.getName() + "` (" + f.getInt(null) + ")"));
            }
        }
        Due.finish("ReadmeTest");
    }

    /** The names of the calls that were asked. */
    private static Set<String> runExamples(String page) throws IllegalAccessException, InvocationTargetException {
        TreeBecomes x = new TreeBecomes();
        Set<String> asked = new TreeSet<>();
        int calls = 0;
        for (String line : page.split("\n")) {
            Matcher typed = TYPED.matcher(line);
            Matcher ask = ASKED.matcher(line);
            if (typed.matches()) {
                calls += Due.type(x, typed.group(1));
            } else if (ask.matches()) {
                Due.same(line.strip(), ask(x, ask.group(1), ask.group(2)), Long.parseLong(ask.group(3)));
                asked.add(ask.group(1));
                calls++;
            } else {
                Due.holds("an example that can't be run: " + line, !line.startsWith("    x."));
            }
        }
        Due.holds("so many calls: " + calls, calls <= MOST_CALLS);
        return asked;
    }

    private static long ask(TreeBecomes x, String name, String numbers)
        throws IllegalAccessException, InvocationTargetException {
        String[] told = numbers.isEmpty() ? new String[0] : numbers.split(", ");
        for (Method m : TreeBecomes.class.getDeclaredMethods()) {
            if (Modifier.isPublic(m.getModifiers()) && m.getName().equals(name)
                && m.getParameterCount() == told.length) {
                Object[] given = new Object[told.length];
                for (int k = 0; k < told.length; k++) {
                    long v = number(told[k]);
                    given[k] = m.getParameterTypes()[k] == long.class ? (Object) v : (Object) (int) v;
                }
                return ((Number) m.invoke(x, given)).longValue();
            }
        }
        Due.holds("there is a call " + name + "(" + numbers + ")", false);
        return 0;
    }

    private static long number(String told) {
        return told.startsWith("'") ? told.charAt(1) : Long.decode(told.replace("L", ""));
    }
}
