import java.lang.reflect.Field;
import java.lang.reflect.Method;
import java.lang.reflect.Modifier;
import java.util.Arrays;
import java.util.Set;
import java.util.TreeSet;
import java.util.regex.Matcher;
import java.util.regex.Pattern;

/** The rules of LANGUAGE.md that can be looked up in the class file or in the text; FaceTest holds most of rule 1. */
public final class LanguageTest {
    private static final int LINES_AT_MOST = 60;
    private static final int DEPTH_AT_MOST = 6;
    private static final int FIELDS_AT_MOST = 40;

    private static final Pattern OUTSIDE_THE_LANGUAGE = Pattern.compile(
        "\\b(package|import|interface|enum|record|float|double|String|Object|Math|Integer|Long|System|Arrays|null"
        + "|throw|throws|try|catch|finally|synchronized|assert|instanceof|protected|volatile|transient|native"
        + "|strictfp|var|length|clone)\\b|->|::|\\[\\s*\\]\\s*\\[|@|\"");
    private static final Pattern STATIC_FIELD = Pattern.compile(
        "    (public|private) static final (int|long) [A-Z_]+ = -?\\d+L?;");
    private static final Pattern ARRAY_FIELD = Pattern.compile(
        "    private final (int|long)\\[\\] \\w+ = new (int|long)\\[[A-Z_]+\\];");
    private static final Pattern COUNTED_FOR = Pattern.compile(
        "\\s+for \\(int (\\w+) = [^;]+; \\1 (<|>|<=|>=) \\w+; \\1(\\+\\+|--)\\) \\{");
    private static final Pattern COUNTED_WHILE = Pattern.compile("\\s+while \\((\\w+) < [A-Z_]+ && .*\\) \\{");

    private static final Source SOURCE = new Source();

    public static void main(String[] args) {
        Check.sentence("1. No private method bears the name of a public one", LanguageTest::namesDiffer);
        Check.sentence("2. int, long, short, byte, char, boolean, and one-dimensional arrays of these",
            LanguageTest::holdsNumbersAlone);
        Check.sentence("2, 3 and 6. no String, no class of the Java library, no throw, try, lambda, null",
            LanguageTest::usesNoForbiddenWord);
        Check.sentence("4. Arrays are made in a field's initialiser, each once, with a length that is a constant",
            LanguageTest::makesArraysInFieldsAlone);
        Check.sentence("5. Static fields are compile-time constants of int or long alone",
            LanguageTest::hasStaticNumbersAlone);
        Check.sentence("8. No recursion", LanguageTest::neverRecurs);
        Check.sentence("8. Every loop has an end that can be seen from its own lines", LanguageTest::countsItsLoops);
        Check.sentence("10. at most seven parameters", LanguageTest::takesFewParameters);
        Check.sentence("10. no call stands inside the arguments of another call", LanguageTest::nestsNoCall);
        Check.sentence("10. Methods stay short, calls go at most six deep", LanguageTest::staysShortAndFlat);
        Check.sentence("10. at most some forty fields beside its constants", LanguageTest::hasFewFields);
        Check.end();
    }

    private static void namesDiffer() {
        Set<String> names = new TreeSet<>();
        for (Method method : SrtDivider.class.getDeclaredMethods()) {
            Check.holds(method + " has a name of its own", names.add(method.getName()));
        }
        names.add("SrtDivider");
        Check.holds("the text shows every method: " + SOURCE.methods(), SOURCE.methods().equals(names));
    }

    private static void holdsNumbersAlone() {
        for (Field field : SrtDivider.class.getDeclaredFields()) {
            Class<?> type = field.getType();
            dueNumber(field.toString(), type.isArray() ? type.getComponentType() : type);
        }
        for (Method method : SrtDivider.class.getDeclaredMethods()) {
            dueNumber("answer of " + method, method.getReturnType());
        }
    }

    private static void dueNumber(String what, Class<?> type) {
        Check.holds(what + " is a whole number or a boolean",
            type.isPrimitive() && type != float.class && type != double.class);
    }

    private static void usesNoForbiddenWord() {
        Matcher matcher = OUTSIDE_THE_LANGUAGE.matcher(SOURCE.code());
        Check.holds("the text was read", SOURCE.code().contains("public final class SrtDivider"));
        while (matcher.find()) {
            Check.holds("no '" + matcher.group() + "' in the program", false);
        }
    }

    private static void makesArraysInFieldsAlone() {
        dueForm("\\bnew\\b", ARRAY_FIELD);
    }

    private static void hasStaticNumbersAlone() {
        for (String line : SOURCE.lines()) {
            if (line.matches(".*\\bstatic\\b.*") && !line.endsWith("{")) {
                Check.holds(line.trim() + " is a constant", STATIC_FIELD.matcher(line).matches());
            }
        }
        Check.holds("no static initialiser", !SOURCE.code().matches("(?s).*\\bstatic\\s*\\{.*"));
    }

    private static void neverRecurs() {
        for (String method : SOURCE.methods()) {
            Check.holds(method + " does not come back to itself", SOURCE.depthOf(method) <= SOURCE.methods().size());
        }
    }

    private static void countsItsLoops() {
        dueForm("\\bfor \\(", COUNTED_FOR);
        dueForm("\\bwhile \\(", COUNTED_WHILE);
        Check.holds("no do loop", !SOURCE.code().matches("(?s).*\\bdo\\s*\\{.*"));
    }

    private static void takesFewParameters() {
        for (Method method : SrtDivider.class.getDeclaredMethods()) {
            Check.holds(method + " has at most seven parameters", method.getParameterCount() <= 7);
        }
    }

    private static void nestsNoCall() {
        String name = "\\b(" + String.join("|", SOURCE.methods()) + ")\\(";
        Pattern nested = Pattern.compile(name + "[^;{]*" + name);
        for (String method : SOURCE.methods()) {
            for (String line : SOURCE.bodyOf(method)) {
                Check.holds(line.trim() + " calls once at most", !nested.matcher(line).find());
            }
        }
    }

    private static void staysShortAndFlat() {
        for (String method : SOURCE.methods()) {
            Check.holds(method + " is short", SOURCE.bodyOf(method).size() <= LINES_AT_MOST);
            Check.holds(method + " calls no deeper than six", SOURCE.depthOf(method) <= DEPTH_AT_MOST);
        }
    }

    private static void hasFewFields() {
        long fields = Arrays.stream(SrtDivider.class.getDeclaredFields())
            .filter(field -> !Modifier.isStatic(field.getModifiers())).count();
        Check.holds("at most forty fields", fields <= FIELDS_AT_MOST);
    }

    /** Every line with the word has the form. */
    private static void dueForm(String word, Pattern form) {
        Pattern inLine = Pattern.compile(word);
        for (String line : SOURCE.lines()) {
            if (inLine.matcher(line).find()) {
                Check.holds(line.trim() + " has the form " + form, form.matcher(line).matches());
            }
        }
    }
}
