import java.lang.reflect.Method;
import java.lang.reflect.Modifier;
import java.util.Arrays;
import java.util.HashMap;
import java.util.List;
import java.util.Map;

/** Every call of the face by number, to the class and to its plain twin. */
final class Calls {
    static final String[] NAMES = {
        "feed", "end", "told", "fault", "count", "look", "of", "is", "chain", "anti", "part", "lines", "line", "rank",
        "deep", "through", "before", "at", "mean", "balance", "jumps", "jumper", "jumpsOf", "critical", "reversed",
        "rowsAre", "ahead", "realizes", "dimension", "row", "adds", "takes", "puts", "cuts", "flip", "without",
        "joins", "alike", "selves", "drops", "undo", "tell", "octet"};

    static int toGauge(OrderGauge g, String name, int[] v) {
        switch (name) {
            case "feed": return g.feed(v[0], v[1], v[2], v[3], v[4]);
            case "end": return g.end(v[0]);
            case "told": return g.told(v[0]);
            case "fault": return g.fault(v[0]);
            case "count": return g.count(v[0]);
            case "look": return g.look(v[0], v[1]);
            case "of": return g.of(v[0], v[1], v[2]);
            case "is": return g.is(v[0], v[1]);
            case "chain": return g.chain(v[0], v[1]);
            case "anti": return g.anti(v[0]);
            case "part": return g.part(v[0], v[1]);
            case "lines": return g.lines(v[0]);
            case "line": return g.line(v[0], v[1], v[2]);
            case "rank": return g.rank(v[0], v[1]);
            case "deep": return g.deep(v[0], v[1], v[2]);
            case "through": return g.through(v[0], v[1]);
            case "before": return g.before(v[0], v[1], v[2]);
            case "at": return g.at(v[0], v[1], v[2]);
            case "mean": return g.mean(v[0], v[1], v[2]);
            case "balance": return g.balance(v[0], v[1]);
            case "jumps": return g.jumps(v[0], v[1]);
            case "jumper": return g.jumper(v[0], v[1], v[2]);
            case "jumpsOf": return g.jumpsOf(v[0], v[1]);
            case "critical": return g.critical(v[0], v[1]);
            case "reversed": return g.reversed(v[0], v[1]);
            case "rowsAre": return g.rowsAre(v[0], v[1]);
            case "ahead": return g.ahead(v[0], v[1]);
            case "realizes": return g.realizes(v[0], v[1], v[2]);
            case "dimension": return g.dimension(v[0], v[1]);
            case "row": return g.row(v[0], v[1], v[2]);
            case "adds": return g.adds(v[0], v[1]);
            case "takes": return g.takes(v[0], v[1]);
            case "puts": return g.puts(v[0], v[1], v[2]);
            case "cuts": return g.cuts(v[0], v[1], v[2]);
            case "flip": return g.flip(v[0]);
            case "without": return g.without(v[0], v[1]);
            case "joins": return g.joins(v[0], v[1], v[2], v[3]);
            case "alike": return g.alike(v[0], v[1]);
            case "selves": return g.selves(v[0]);
            case "drops": return g.drops(v[0]);
            case "undo": return g.undo();
            case "tell": return g.tell(v[0]);
            case "octet": return g.octet(v[0]);
            default: throw new IllegalStateException(name);
        }
    }

    private static final Map<String, Method> PLAIN = new HashMap<>();

    // By name: speed does not matter there, while toGauge() must make no objects of its own.
    static int toPlain(PlainGauge g, String name, int[] v) {
        if (PLAIN.isEmpty()) {
            for (Method method : PlainGauge.class.getDeclaredMethods()) {
                if (List.of(NAMES).contains(method.getName()) && !Modifier.isStatic(method.getModifiers())) {
                    PLAIN.put(method.getName(), method);
                }
            }
        }
        Method method = PLAIN.get(name);
        Object[] args = Arrays.stream(v).limit(method.getParameterCount()).boxed().toArray();
        try {
            return (Integer) method.invoke(g, args);
        } catch (ReflectiveOperationException e) {
            throw new IllegalStateException(name, e);
        }
    }
}
