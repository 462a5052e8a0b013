import java.util.ArrayList;
import java.util.List;

/** Every query of the public face, one place beyond each of its ranges included. */
final class Snapshot {
    private static final List<Query> QUERIES = allQueries();

    private Snapshot() {
    }

    private enum Method { STATUS, TRACE, PARTIAL, HISTORY, THRESHOLD }

    private record Query(Method method, int first, int second) {
        long ask(SrtDivider unit) {
            return switch (method) {
                case STATUS -> unit.status(first);
                case TRACE -> unit.trace(first, second);
                case PARTIAL -> unit.partialRemainder(first);
                case HISTORY -> unit.history(first, second);
                case THRESHOLD -> unit.threshold(first, second);
            };
        }

        long ask(Model model) {
            return switch (method) {
                case STATUS -> model.status(first);
                case TRACE -> model.trace(first, second);
                case PARTIAL -> model.partialRemainder(first);
                case HISTORY -> model.history(first, second);
                case THRESHOLD -> model.threshold(first, second);
            };
        }
    }

    static long[] of(SrtDivider unit) {
        return QUERIES.stream().mapToLong(query -> query.ask(unit)).toArray();
    }

    static long[] of(Model model) {
        return QUERIES.stream().mapToLong(query -> query.ask(model)).toArray();
    }

    static String nameOf(int index) {
        return QUERIES.get(index).toString();
    }

    private static List<Query> allQueries() {
        List<Query> queries = new ArrayList<>();
        addAll(queries, Method.STATUS, -1, 12, 0, 0);
        addAll(queries, Method.TRACE, -1, 4, -1, 11);
        addAll(queries, Method.PARTIAL, -1, 11, 0, 0);
        addAll(queries, Method.HISTORY, -1, 4, -1, 17);
        addAll(queries, Method.THRESHOLD, -1, 8, -2, 3);
        return queries;
    }

    private static void addAll(List<Query> queries, Method method,
            int firstFrom, int firstTo, int secondFrom, int secondTo) {
        for (int first = firstFrom; first <= firstTo; first++) {
            for (int second = secondFrom; second <= secondTo; second++) {
                queries.add(new Query(method, first, second));
            }
        }
    }
}
