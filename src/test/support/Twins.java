import java.util.ArrayList;
import java.util.List;
import java.util.function.Function;
import java.util.function.Supplier;
import java.util.function.ToIntFunction;

/** Tells whether a call changes anything: an object that got it is held against one that got all calls but that one. */
final class Twins {
    private static final List<Function<QueryPushCompiler, String>> READINGS = readings();

    private final Due due;
    private final Supplier<QueryPushCompiler> scene;

    Twins(Due due, Supplier<QueryPushCompiler> scene) {
        this.due = due;
        this.scene = scene;
    }

    /** The call is answered so, and changes nothing. */
    void unchangedBy(String name, ToIntFunction<QueryPushCompiler> call, int want) {
        due.answer(name, call.applyAsInt(scene.get()), want);
        for (Function<QueryPushCompiler, String> reading : READINGS) {
            // A new pair for every reading, because some of the readings change what they read.
            QueryPushCompiler without = scene.get();
            QueryPushCompiler with = scene.get();
            call.applyAsInt(with);
            String before = reading.apply(without);
            String after = reading.apply(with);
            due.isTrue(name + " changes nothing: before it " + before + ", after it " + after, before.equals(after));
        }
    }

    private static List<Function<QueryPushCompiler, String>> readings() {
        List<Function<QueryPushCompiler, String>> all = new ArrayList<>();
        all.add(x -> "result " + result(x));
        all.add(x -> "next node " + x.scan(0));
        for (int i = 0; i < 12; i++) {
            int node = i;
            all.add(x -> "width(" + node + ") " + x.width(node));
            // Refused whether or not the node is a child already, but not with the same answer.
            all.add(x -> "use of node " + node + " " + x.sort(node, -1, false));
            all.add(x -> "run(" + node + ") " + x.run(node) + " " + result(x));
        }
        for (int i = 0; i < 4; i++) {
            int table = i;
            all.add(x -> "tableRows(" + table + ") " + x.tableRows(table));
            all.add(x -> "defineTable(" + table + ", 2) " + x.defineTable(table, 2));
            all.add(x -> "table " + table + " " + table(x, table));
        }
        return all;
    }

    private static String result(QueryPushCompiler x) {
        StringBuilder text = new StringBuilder(x.resultRows() + " rows of " + x.resultWidth());
        for (int row = 0; row < x.resultRows(); row++) {
            text.append(" |");
            for (int column = 0; column < x.resultWidth(); column++) {
                text.append(' ').append(x.cell(row, column));
            }
        }
        return text.toString();
    }

    private static String table(QueryPushCompiler x, int table) {
        x.clearPlan();
        return x.scan(table) + " " + x.run(0) + " " + result(x);
    }
}
