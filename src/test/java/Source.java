import java.io.IOException;
import java.io.UncheckedIOException;
import java.nio.file.Files;
import java.nio.file.Path;
import java.util.ArrayList;
import java.util.List;
import java.util.Map;
import java.util.Set;
import java.util.TreeMap;
import java.util.TreeSet;
import java.util.regex.Matcher;
import java.util.regex.Pattern;

/** The text of the class, cut into its methods by the way it is indented. */
final class Source {
    private static final Path FILE = Path.of("src/main/java/SrtDivider.java");
    private static final Pattern HEAD = Pattern.compile("    (?:public|private)[\\w ]*? ?(\\w+)\\([^)]*\\) \\{");

    private final String code;
    private final Map<String, List<String>> bodies = new TreeMap<>();

    Source() {
        code = withoutComments(read());
        String method = null;
        for (String line : code.split("\n")) {
            Matcher head = HEAD.matcher(line);
            if (head.matches()) {
                method = head.group(1);
                bodies.put(method, new ArrayList<>());
            } else if (line.equals("    }")) {
                method = null;
            } else if (method != null) {
                bodies.get(method).add(line);
            }
        }
    }

    String code() {
        return code;
    }

    List<String> lines() {
        return List.of(code.split("\n"));
    }

    Set<String> methods() {
        return bodies.keySet();
    }

    List<String> bodyOf(String method) {
        return bodies.get(method);
    }

    Set<String> calledBy(String method) {
        Set<String> called = new TreeSet<>();
        Matcher call = Pattern.compile("\\b(\\w+)\\(").matcher(String.join("\n", bodies.get(method)));
        while (call.find()) {
            if (bodies.containsKey(call.group(1))) {
                called.add(call.group(1));
            }
        }
        return called;
    }

    /** How deep calls go from the method, itself counted; beyond the number of methods there is a recursion. */
    int depthOf(String method) {
        Set<String> level = Set.of(method);
        int depth = 0;
        while (!level.isEmpty() && depth <= bodies.size()) {
            Set<String> next = new TreeSet<>();
            level.forEach(caller -> next.addAll(calledBy(caller)));
            level = next;
            depth++;
        }
        return depth;
    }

    private static String read() {
        try {
            return Files.readString(FILE);
        } catch (IOException e) {
            throw new UncheckedIOException(e);
        }
    }

    private static String withoutComments(String text) {
        return text.replaceAll("(?s)/\\*.*?\\*/", " ").replaceAll("//[^\n]*", " ");
    }
}
