import java.io.IOException;
import java.lang.reflect.Constructor;
import java.lang.reflect.Field;
import java.lang.reflect.Method;
import java.lang.reflect.Modifier;
import java.nio.file.Files;
import java.nio.file.Path;
import java.util.Set;
import java.util.TreeSet;
import java.util.regex.Pattern;

/** The public face, member by member, and those rules of LANGUAGE.md that can be read off. */
public final class FaceTest {
    private static final Checks c = new Checks();

    public static void main(String[] args) throws IOException {
        face();
        privateNames();
        fields();
        words();
        c.end();
    }

    private static void face() {
        Set<String> want = new TreeSet<>(Set.of(
                "int BAD_ARG", "int FULL", "int BAD_PILE", "int CIRCULAR", "new()",
                "int set(int,int)", "int get(int)", "int num(int)", "int input(int)", "int query(int)",
                "int choose(int,int)", "int apply(int)", "void scrap()", "int drafted()", "int finish(int)",
                "int value(int)", "boolean circular(int)", "int needs(int)", "int total()", "int circulars()",
                "int stirred(int,int)"));
        Set<String> got = new TreeSet<>();
        for (Field f : RevisionQueries.class.getDeclaredFields()) {
            if (!Modifier.isPrivate(f.getModifiers())) {
                got.add(f.getType() + " " + f.getName());
                c.due("modifiers of " + f.getName(),
                        Modifier.PUBLIC | Modifier.STATIC | Modifier.FINAL, f.getModifiers());
            }
        }
        for (Constructor<?> k : RevisionQueries.class.getDeclaredConstructors()) {
            got.add("new" + parameters(k.getParameterTypes()));
            c.due("modifiers of the constructor", Modifier.PUBLIC, k.getModifiers());
        }
        for (Method m : RevisionQueries.class.getDeclaredMethods()) {
            if (!Modifier.isPrivate(m.getModifiers())) {
                got.add(m.getReturnType() + " " + m.getName() + parameters(m.getParameterTypes()));
                c.due("modifiers of " + m.getName(), Modifier.PUBLIC, m.getModifiers());
            }
        }
        c.holds("the face is " + got + ", that it", want.equals(got));
        c.due("modifiers of the class", Modifier.PUBLIC | Modifier.FINAL, RevisionQueries.class.getModifiers());
        c.due("nested classes", 0, RevisionQueries.class.getDeclaredClasses().length);
    }

    private static String parameters(Class<?>[] types) {
        StringBuilder s = new StringBuilder("(");
        for (Class<?> t : types) {
            s.append(s.length() > 1 ? "," : "").append(t);
        }
        return s.append(")").toString();
    }

    private static void privateNames() {
        Set<String> open = new TreeSet<>();
        for (Method m : RevisionQueries.class.getDeclaredMethods()) {
            if (Modifier.isPublic(m.getModifiers())) {
                open.add(m.getName());
            }
        }
        for (Method m : RevisionQueries.class.getDeclaredMethods()) {
            if (Modifier.isPrivate(m.getModifiers())) {
                c.holds("the name " + m.getName() + " is not a public one, that it", !open.contains(m.getName()));
                c.holds("at most seven parameters of " + m.getName() + ", that it", m.getParameterCount() <= 7);
            }
        }
    }

    private static void fields() {
        int count = 0;
        for (Field f : RevisionQueries.class.getDeclaredFields()) {
            Class<?> t = f.getType();
            Class<?> base = t.isArray() ? t.getComponentType() : t;
            c.holds("a type of the language for " + f.getName() + ", that it",
                    base.isPrimitive() && base != float.class && base != double.class);
            if (Modifier.isStatic(f.getModifiers())) {
                c.holds("a static constant " + f.getName() + ", that it",
                        Modifier.isFinal(f.getModifiers()) && (t == int.class || t == long.class));
            } else {
                count++;
            }
        }
        c.holds("at most forty fields, that it", count <= 40);
    }

    private static void words() throws IOException {
        String source = Files.readString(Path.of("src/main/java/RevisionQueries.java"));
        String code = source.replaceAll("(?s)/\\*.*?\\*/", " ").replaceAll("//[^\n]*", " ");
        for (String word : new String[] {"package", "import", "null", "throw", "throws", "try", "catch",
                "synchronized", "assert", "instanceof", "float", "double", "String", "Math", "Integer",
                "System", "Arrays", "Object", "protected", "enum", "record", "interface"}) {
            c.due("the word " + word, false, Pattern.compile("\\b" + word + "\\b").matcher(code).find());
        }
        c.due("a lambda or method reference", false, code.contains("->") || code.contains("::"));
        String field = "(?m)^    private final \\w+\\[\\] \\w+ = new \\w+\\[\\w+\\];$";
        c.due("an array or object made elsewhere than in a field's initialiser", false,
                Pattern.compile("\\bnew\\b").matcher(code.replaceAll(field, "")).find());
    }
}
