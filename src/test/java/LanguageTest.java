import java.io.IOException;
import java.lang.reflect.Constructor;
import java.lang.reflect.Field;
import java.lang.reflect.Method;
import java.lang.reflect.Modifier;
import java.nio.file.Files;
import java.nio.file.Path;
import java.util.Set;
import java.util.TreeSet;
import java.util.regex.Matcher;
import java.util.regex.Pattern;

/** The face of the document, no more and no less, and the rules of LANGUAGE.md that can be looked up. */
public final class LanguageTest {
    private static final Path SOURCE = Path.of("src/main/java/SrtDivider.java");

    private static final Set<String> METHODS = Set.of(
        "boolean load(int,int)", "boolean start()", "int step(int)", "boolean divide(int,int)",
        "boolean cancel()", "void clearHistory()", "int status(int)", "int trace(int,int)",
        "long partialRemainder(int)", "int history(int,int)", "int threshold(int,int)");

    private static final Set<String> CONSTANTS = Set.of(
        "int NONE=-2147483648", "long NONE_LONG=-9223372036854775808",
        "int PHASE_EMPTY=0", "int PHASE_LOADED=1", "int PHASE_ITERATING=2", "int PHASE_DONE=3",
        "int ITERATION_CYCLES=9", "int LAST_CYCLE=10",
        "int MAX_OPERAND=65535", "int HISTORY_MIN=1", "int HISTORY_MAX=16",
        "int STATUS_PHASE=0", "int STATUS_CYCLE=1", "int STATUS_DIVIDEND=2", "int STATUS_DIVISOR=3",
        "int STATUS_SHIFT=4", "int STATUS_NORM_DIVISOR=5", "int STATUS_ROW=6", "int STATUS_QUOTIENT=7",
        "int STATUS_REMAINDER=8", "int STATUS_HISTORY_COUNT=9", "int STATUS_DIVISIONS=10", "int STATUS_CAPACITY=11",
        "int TRACE_DIGIT=0", "int TRACE_ESTIMATE=1", "int TRACE_QP=2", "int TRACE_QM=3",
        "int HIST_DIVIDEND=0", "int HIST_DIVISOR=1", "int HIST_QUOTIENT=2", "int HIST_REMAINDER=3");

    private static final Pattern FORBIDDEN = Pattern.compile(
        "\\b(package|import|interface|enum|record|float|double|String|Object|Math|Integer|Long|System|Arrays|null"
        + "|throw|throws|try|catch|finally|synchronized|assert|instanceof|protected|volatile|transient|native"
        + "|strictfp|var|length|clone)\\b|->|::|\\[\\s*\\]\\s*\\[|@|\"");

    public static void main(String[] args) throws IOException, IllegalAccessException {
        hasTheClassOfTheDocument();
        hasTheConstructorOfTheDocument();
        hasTheMethodsOfTheDocument();
        hasTheConstantsOfTheDocument();
        hasFewFields();
        String code = withoutComments(Files.readString(SOURCE));
        usesNoForbiddenWord(code);
        makesArraysInFieldsAlone(code);
        Check.end();
    }

    private static void hasTheClassOfTheDocument() {
        Class<?> type = SrtDivider.class;
        Check.due("modifiers of the class", type.getModifiers(), Modifier.PUBLIC | Modifier.FINAL);
        Check.due("nested classes", type.getDeclaredClasses().length, 0);
        Check.holds("no package", type.getPackageName().isEmpty());
        Check.holds("no superclass but Object", type.getSuperclass() == Object.class);
        Check.due("interfaces", type.getInterfaces().length, 0);
    }

    private static void hasTheConstructorOfTheDocument() {
        Constructor<?>[] constructors = SrtDivider.class.getDeclaredConstructors();
        Check.due("constructors", constructors.length, 1);
        Check.holds("the constructor is SrtDivider(int)",
            constructors[0].toString().equals("public SrtDivider(int)"));
    }

    private static void hasTheMethodsOfTheDocument() {
        Set<String> open = new TreeSet<>();
        Set<String> openNames = new TreeSet<>();
        Set<String> hiddenNames = new TreeSet<>();
        for (Method method : SrtDivider.class.getDeclaredMethods()) {
            Check.holds(method + " has at most seven parameters", method.getParameterCount() <= 7);
            if (Modifier.isPrivate(method.getModifiers())) {
                hiddenNames.add(method.getName());
            } else {
                Check.due("modifiers of " + method, method.getModifiers(), Modifier.PUBLIC);
                open.add(signatureOf(method));
                openNames.add(method.getName());
            }
        }
        Check.holds("the public methods are those of the document: " + open, open.equals(METHODS));
        hiddenNames.retainAll(openNames);
        Check.holds("no private method bears the name of a public one: " + hiddenNames, hiddenNames.isEmpty());
    }

    private static String signatureOf(Method method) {
        StringBuilder text = new StringBuilder(method.getReturnType() + " " + method.getName() + "(");
        for (Class<?> parameter : method.getParameterTypes()) {
            text.append(text.toString().endsWith("(") ? "" : ",").append(parameter);
        }
        return text.append(")").toString();
    }

    private static void hasTheConstantsOfTheDocument() throws IllegalAccessException {
        Set<String> open = new TreeSet<>();
        for (Field field : SrtDivider.class.getDeclaredFields()) {
            int modifiers = field.getModifiers();
            boolean number = field.getType() == int.class || field.getType() == long.class;
            if (Modifier.isStatic(modifiers)) {
                Check.holds(field + " is a constant number", number && Modifier.isFinal(modifiers));
            }
            if (!Modifier.isPrivate(modifiers)) {
                Check.due("modifiers of " + field, modifiers, Modifier.PUBLIC | Modifier.STATIC | Modifier.FINAL);
                open.add(field.getType() + " " + field.getName() + "=" + field.get(null));
            }
        }
        Check.holds("the public constants are those of the document: " + open, open.equals(CONSTANTS));
    }

    private static void hasFewFields() {
        int fields = 0;
        for (Field field : SrtDivider.class.getDeclaredFields()) {
            Class<?> type = field.getType();
            Class<?> element = type.isArray() ? type.getComponentType() : type;
            Check.holds(field + " is a number, a boolean or an array of these", element.isPrimitive());
            fields += Modifier.isStatic(field.getModifiers()) ? 0 : 1;
        }
        Check.holds("at most forty fields", fields <= 40);
    }

    private static String withoutComments(String source) {
        return source.replaceAll("(?s)/\\*.*?\\*/", " ").replaceAll("//[^\n]*", " ");
    }

    private static void usesNoForbiddenWord(String code) {
        Matcher matcher = FORBIDDEN.matcher(code);
        while (matcher.find()) {
            Check.holds("no '" + matcher.group() + "' in the program", false);
        }
    }

    private static void makesArraysInFieldsAlone(String code) {
        for (String line : code.split("\n")) {
            if (line.matches(".*\\bnew\\b.*")) {
                Check.holds(line.trim() + " is a field with an array of constant length",
                    line.matches("    private final (int|long)\\[\\] \\w+ = new (int|long)\\[[A-Z_]+\\];"));
            }
        }
    }
}
