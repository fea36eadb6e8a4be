import java.io.File;
import java.io.IOException;
import java.lang.reflect.Field;
import java.lang.reflect.Method;
import java.lang.reflect.Modifier;
import java.nio.file.Files;
import java.nio.file.Path;
import java.util.Set;
import java.util.TreeSet;
import java.util.regex.Matcher;
import java.util.regex.Pattern;

/** README.md's examples answer what is written behind them, and it leaves nothing of the face out. */
public final class ReadmeTest {
    private static final Pattern CALL = Pattern.compile("x\\.(\\w+)\\(([-\\d, ]*)\\);\\s*// ([-\\w]+).*");
    private static final Checks c = new Checks();

    public static void main(String[] args) throws IOException, ReflectiveOperationException {
        String text = Files.readString(Path.of("README.md"));
        Set<String> made = examples(text);
        face(text, made);
        tests(text);
        c.end();
    }

    /** Makes the calls of all examples, as one run, and answers the names of the methods called. */
    private static Set<String> examples(String text) throws ReflectiveOperationException {
        Set<String> made = new TreeSet<>();
        RevisionQueries x = new RevisionQueries();
        boolean inside = false;
        for (String line : text.split("\n")) {
            if (line.startsWith("```")) {
                inside = line.equals("```java");
            } else if (inside && line.equals("RevisionQueries x = new RevisionQueries();")) {
                x = new RevisionQueries();
            } else if (inside) {
                Matcher m = CALL.matcher(line);
                c.holds("a call and its answer in the line '" + line + "', that it", m.matches());
                if (m.matches()) {
                    made.add(m.group(1));
                    call(x, line, m);
                }
            }
        }
        return made;
    }

    private static void call(RevisionQueries x, String line, Matcher m) throws ReflectiveOperationException {
        String[] words = m.group(2).isEmpty() ? new String[0] : m.group(2).split(", ");
        Class<?>[] types = new Class<?>[words.length];
        Object[] numbers = new Object[words.length];
        for (int n = 0; n < words.length; n++) {
            types[n] = int.class;
            numbers[n] = Integer.valueOf(words[n]);
        }
        Method method = RevisionQueries.class.getMethod(m.group(1), types);
        Object got = method.invoke(x, numbers);
        if (method.getReturnType() != void.class) {
            c.holds(line + " answered " + got + ", that this", got.toString().equals(number(m.group(3))));
        }
    }

    /** The number of a constant, other words as they stand. */
    private static String number(String word) throws ReflectiveOperationException {
        boolean constant = word.matches("[A-Z_]+");
        return constant ? RevisionQueries.class.getField(word).get(null).toString() : word;
    }

    private static void face(String text, Set<String> made) throws ReflectiveOperationException {
        for (Method m : RevisionQueries.class.getDeclaredMethods()) {
            if (Modifier.isPublic(m.getModifiers())) {
                c.holds("an example of " + m.getName() + ", that it", made.contains(m.getName()));
            }
        }
        for (Field f : RevisionQueries.class.getFields()) {
            c.holds("the code " + f.getName() + " with its number, that it",
                    text.contains("`" + f.getName() + "` (" + f.get(null) + ")"));
        }
    }

    private static void tests(String text) {
        c.holds("how to run the tests, that it", text.contains("\n    .ci/run\n"));
        for (String file : new File("src/test/java").list()) {
            if (file.endsWith("Test.java")) {
                c.holds("the test " + file + ", that it", text.contains("`" + file.replace(".java", "") + "`"));
            }
        }
    }
}
