import java.io.IOException;
import java.lang.reflect.Constructor;
import java.lang.reflect.Field;
import java.lang.reflect.Method;
import java.lang.reflect.Modifier;
import java.nio.file.Files;
import java.nio.file.Path;
import java.util.ArrayList;
import java.util.Arrays;
import java.util.HashSet;
import java.util.List;
import java.util.Set;
import java.util.regex.Matcher;
import java.util.regex.Pattern;

/** Those rules of LANGUAGE.md that can be counted. Each text begins with the number of its rule. */
public final class LanguageTest {
    /** Words that Edits13.java, which throws nothing and has no texts, has no need of. */
    private static final String[] WORDS = {"import", "package", "protected", "try", "catch", "finally", "throw", "throws",
        "synchronized", "assert", "volatile", "transient", "native", "strictfp", "goto", "instanceof", "String", "Object",
        "Random", "Thread", "System", "Runtime", "equals", "hashCode", "toString", "getClass", "NaN"};
    /** What rule 4 names of Math, Integer and Long. */
    private static final List<String> LIBRARY = Arrays.asList("compare", "max", "min", "abs", "bitCount", "floorDiv",
        "floorMod");
    private static final Set<Class<?>> NUMBERS = new HashSet<>(Arrays.asList(int.class, long.class, short.class,
        byte.class, char.class, boolean.class, double.class, float.class));

    private final List<Class<?>> classes = new ArrayList<>();

    private LanguageTest() {
        classes.add(Edits13.class);
        for (int i = 0; i < classes.size(); i++) {
            classes.addAll(Arrays.asList(classes.get(i).getDeclaredClasses()));
        }
    }

    private static void holds(String what, boolean does) {
        Due.same(what, does ? 1 : 0, 1);
    }

    private void namesAreTheFacesOwn() {
        Set<String> face = new HashSet<>();
        for (Method m : Edits13.class.getDeclaredMethods()) {
            if (Modifier.isPublic(m.getModifiers())) {
                face.add(m.getName());
            }
        }
        for (Class<?> c : classes) {
            for (Method m : c.getDeclaredMethods()) {
                holds("1: " + m + " has a name of its own", c == Edits13.class || !face.contains(m.getName()));
            }
        }
    }

    private boolean isAllowed(Class<?> type) {
        Class<?> of = type.isArray() ? type.getComponentType() : type;
        return NUMBERS.contains(of) || classes.contains(of) || of.isArray() && NUMBERS.contains(of.getComponentType());
    }

    private void fields() {
        for (Class<?> c : classes) {
            int count = 0;
            for (Field f : c.getDeclaredFields()) {
                holds("3: " + f + " is of a type that there is", isAllowed(f.getType()));
                boolean isStatic = Modifier.isStatic(f.getModifiers());
                holds("5: " + f + " is final, if it is static", !isStatic || Modifier.isFinal(f.getModifiers()));
                count += isStatic ? 0 : 1;
            }
            holds("11: " + c + " has some twenty fields at most, not " + count, count <= 20);
        }
    }

    private void parameters() {
        for (Class<?> c : classes) {
            for (Method m : c.getDeclaredMethods()) {
                holds("11: " + m + " has seven parameters at most", m.getParameterCount() <= 7);
            }
            for (Constructor<?> made : c.getDeclaredConstructors()) {
                holds("11: " + made + " has seven parameters at most", made.getParameterCount() <= 7);
            }
        }
        holds("11: there are some twelve classes at most, not " + classes.size(), classes.size() <= 12);
    }

    private static void words(String code) {
        for (String word : WORDS) {
            holds("2 to 6, 13: no " + word, !Pattern.compile("\\b" + word + "\\b").matcher(code).find());
        }
        holds("2: no lambda", !code.contains("->"));
        holds("2: no method reference", !code.contains("::"));
        holds("3: no text and no sign", code.indexOf('"') < 0 && code.indexOf('\'') < 0);
        holds("5: no static initialiser block", !Pattern.compile("\\bstatic\\s*\\{").matcher(code).find());
        holds("9: no loop without a bound", !code.contains("while (true)") && !code.contains("for (;;)"));
        Matcher library = Pattern.compile("\\b(Math|Integer|Long|Arrays|List|ArrayList)\\.(\\w+)").matcher(code);
        while (library.find()) {
            holds("4: " + library.group() + " is listed", LIBRARY.contains(library.group(2)));
        }
    }

    /** A method begins where a line of one or two steps in opens it, and ends where the same steps close it. */
    private static void lengths(String[] lines) {
        int methods = 0;
        for (int i = 0; i < lines.length; i++) {
            Matcher head = Pattern.compile("((?:    ){1,2})[\\w\\[\\]<> ]+\\(.*\\) \\{").matcher(lines[i]);
            if (head.matches()) {
                int end = i;
                while (end < lines.length && !lines[end].equals(head.group(1) + "}")) {
                    end++;
                }
                methods++;
                holds("11: some sixty lines at most, not " + (end - i + 1) + ": " + lines[i].trim(), end - i < 60);
            }
        }
        holds("11: methods were found: " + methods, methods > 100);
    }

    public static void main(String[] args) throws IOException {
        String source = Files.readString(Path.of("src/main/java/Edits13.java"));
        String code = source.replaceAll("(?s)/\\*.*?\\*/", "").replaceAll("//[^\n]*", "");
        LanguageTest test = new LanguageTest();
        test.namesAreTheFacesOwn();
        test.fields();
        test.parameters();
        words(code);
        lengths(source.split("\n"));
        Due.end();
    }
}
