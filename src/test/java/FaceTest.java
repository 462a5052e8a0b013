import java.lang.reflect.Constructor;
import java.lang.reflect.Field;
import java.lang.reflect.Method;
import java.lang.reflect.Modifier;
import java.util.Arrays;
import java.util.Set;
import java.util.TreeSet;
import java.util.stream.Collectors;

/** "What it is" and "The public face": the class has the members told there, and no other that can be seen. */
public final class FaceTest {
    private static final Set<String> METHODS = Set.of(
        "public boolean load(int,int)", "public boolean start()", "public int step(int)",
        "public boolean divide(int,int)", "public boolean cancel()", "public void clearHistory()",
        "public int status(int)", "public int trace(int,int)", "public long partialRemainder(int)",
        "public int history(int,int)", "public int threshold(int,int)");

    private static final Set<String> CONSTANTS = Set.of(
        "int NONE=-2147483648", "long NONE_LONG=-9223372036854775808",
        "int PHASE_EMPTY=0", "int PHASE_LOADED=1", "int PHASE_ITERATING=2", "int PHASE_DONE=3",
        "int ITERATION_CYCLES=9", "int LAST_CYCLE=10",
        "int MAX_OPERAND=65535", "int HISTORY_MIN=1", "int HISTORY_MAX=16",
        "int STATUS_PHASE=0", "int STATUS_CYCLE=1", "int STATUS_DIVIDEND=2", "int STATUS_DIVISOR=3",
        "int STATUS_SHIFT=4", "int STATUS_NORM_DIVISOR=5", "int STATUS_ROW=6", "int STATUS_QUOTIENT=7",
        "int STATUS_REMAINDER=8", "int STATUS_HISTORY_COUNT=9", "int STATUS_DIVISIONS=10", "int STATUS_CAPACITY=11",
        "int TRACE_DIGIT=0", "int TRACE_ESTIMATE=1", "int TRACE_QP=2", "int TRACE_QM=3",
        "int HIST_DIVIDEND=0", "int HIST_DIVISOR=1", "int HIST_QUOTIENT=2", "int HIST_REMAINDER=3");

    public static void main(String[] args) {
        Check.sentence("public final class SrtDivider", FaceTest::isTheClassTold);
        Check.sentence("public static final int NONE .. HIST_REMAINDER", FaceTest::hasTheConstantsTold);
        Check.sentence("public SrtDivider(int historyCapacity)", FaceTest::hasTheConstructorTold);
        Check.sentence("public boolean load(int dividend, int divisor) .. public int threshold(int row, int digit)",
            FaceTest::hasTheMethodsTold);
        Check.end();
    }

    private static void isTheClassTold() {
        Class<?> type = SrtDivider.class;
        Check.due("modifiers of the class", type.getModifiers(), Modifier.PUBLIC | Modifier.FINAL);
        Check.holds("no package", type.getPackageName().isEmpty());
        Check.holds("no superclass but Object", type.getSuperclass() == Object.class);
        Check.due("interfaces", type.getInterfaces().length, 0);
        Check.due("nested classes", type.getDeclaredClasses().length, 0);
    }

    private static void hasTheConstantsTold() {
        Set<String> open = new TreeSet<>();
        for (Field field : SrtDivider.class.getDeclaredFields()) {
            int modifiers = field.getModifiers();
            if (!Modifier.isPrivate(modifiers)) {
                Check.due("modifiers of " + field, modifiers, Modifier.PUBLIC | Modifier.STATIC | Modifier.FINAL);
                open.add(field.getType() + " " + field.getName() + "=" + valueOf(field));
            }
        }
        dueSame("public constants", open, CONSTANTS);
    }

    private static Object valueOf(Field constant) {
        try {
            return constant.get(null);
        } catch (IllegalAccessException e) {
            throw new IllegalStateException(e);
        }
    }

    private static void hasTheConstructorTold() {
        Set<String> open = Arrays.stream(SrtDivider.class.getDeclaredConstructors())
            .map(Constructor::toString).collect(Collectors.toSet());
        dueSame("constructors", open, Set.of("public SrtDivider(int)"));
    }

    private static void hasTheMethodsTold() {
        Set<String> open = Arrays.stream(SrtDivider.class.getDeclaredMethods())
            .filter(method -> !Modifier.isPrivate(method.getModifiers()))
            .map(FaceTest::signatureOf).collect(Collectors.toSet());
        dueSame("public methods", open, METHODS);
    }

    private static String signatureOf(Method method) {
        return method.toString().replace("SrtDivider.", "");
    }

    private static void dueSame(String what, Set<String> got, Set<String> wanted) {
        for (String member : wanted) {
            Check.holds(member + " is there", got.contains(member));
        }
        for (String member : got) {
            Check.holds(member + " is one of the " + what + " told", wanted.contains(member));
        }
    }
}
