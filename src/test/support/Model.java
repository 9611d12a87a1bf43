import java.util.ArrayList;
import java.util.Arrays;
import java.util.LinkedHashMap;
import java.util.List;
import java.util.Map;

/** The document once more, with lists and recursion and close to its words: what the class is held against. */
final class Model {
    private static final class Table {
        int width = 2;
        final List<int[]> rows = new ArrayList<>();
    }

    private static final class Node {
        final String kind;
        final int width;
        final Node[] children;
        final int[] with;
        boolean isChild;

        Node(String kind, int width, Node[] children, int... with) {
            this.kind = kind;
            this.width = width;
            this.children = children;
            this.with = with;
            for (Node child : children) {
                child.isChild = true;
            }
        }
    }

    private final List<Table> tables = new ArrayList<>();
    private final List<Node> plan = new ArrayList<>();
    private List<int[]> result = new ArrayList<>();
    private int resultWidth = 0;

    Model(int count) {
        for (int i = 0; i < Math.max(1, Math.min(4, count)); i++) {
            tables.add(new Table());
        }
    }

    private static boolean in(int value, int from, int to) {
        return from <= value && value <= to;
    }

    private boolean noTable(int table) {
        return !in(table, 0, tables.size() - 1);
    }

    int defineTable(int table, int width) {
        if (noTable(table)) return -1;
        if (!in(width, 1, 3)) return -2;
        for (Node node : plan) {
            if (node.kind.equals("scan") && node.with[0] == table) return -11;
        }
        tables.get(table).width = width;
        tables.get(table).rows.clear();
        return 0;
    }

    int addRow(int table, int a, int b, int c) {
        if (noTable(table)) return -1;
        Table t = tables.get(table);
        if (t.rows.size() == 10) return -9;
        t.rows.add(Arrays.copyOf(new int[] {a, b, c}, t.width));
        return t.rows.size() - 1;
    }

    int setCell(int table, int row, int column, int value) {
        if (noTable(table)) return -1;
        Table t = tables.get(table);
        if (!in(row, 0, t.rows.size() - 1)) return -12;
        if (!in(column, 0, t.width - 1)) return -3;
        t.rows.get(row)[column] = value;
        return 0;
    }

    int dropRow(int table, int row) {
        if (noTable(table)) return -1;
        Table t = tables.get(table);
        if (!in(row, 0, t.rows.size() - 1)) return -12;
        t.rows.remove(row);
        return t.rows.size();
    }

    void clearPlan() {
        plan.clear();
    }

    private int add(Node node) {
        plan.add(node);
        return plan.size() - 1;
    }

    /** The refusals that every call with children shares; 0 if there is none. */
    private int refusal(int... children) {
        if (plan.size() == 12) return -8;
        for (int child : children) {
            if (!in(child, 0, plan.size() - 1)) return -4;
        }
        for (int child : children) {
            if (plan.get(child).isChild) return -5;
        }
        return children.length == 2 && children[0] == children[1] ? -5 : 0;
    }

    private boolean noColumn(int node, int column) {
        return !in(column, 0, plan.get(node).width - 1);
    }

    private Node[] nodes(int... indices) {
        return Arrays.stream(indices).mapToObj(plan::get).toArray(Node[]::new);
    }

    int scan(int table) {
        if (plan.size() == 12) return -8;
        if (noTable(table)) return -1;
        return add(new Node("scan", tables.get(table).width, nodes(), table));
    }

    int filter(int child, int column, int cmp, int value) {
        if (refusal(child) != 0) return refusal(child);
        if (noColumn(child, column)) return -3;
        if (!in(cmp, 0, 5)) return -6;
        return add(new Node("filter", width(child), nodes(child), column, cmp, value));
    }

    int filterCols(int child, int columnA, int cmp, int columnB) {
        if (refusal(child) != 0) return refusal(child);
        if (noColumn(child, columnA) || noColumn(child, columnB)) return -3;
        if (!in(cmp, 0, 5)) return -6;
        return add(new Node("filterCols", width(child), nodes(child), columnA, cmp, columnB));
    }

    int map(int child, int op, int columnA, int columnB) {
        if (refusal(child) != 0) return refusal(child);
        if (!in(op, 0, 4)) return -6;
        if (noColumn(child, columnA) || noColumn(child, columnB)) return -3;
        if (width(child) == 6) return -7;
        return add(new Node("map", width(child) + 1, nodes(child), op, columnA, columnB));
    }

    int project(int child, int columns, int n) {
        if (refusal(child) != 0) return refusal(child);
        if (!in(n, 1, 6)) return -2;
        int[] chosen = new int[n];
        for (int i = 0; i < n; i++) {
            chosen[i] = (columns >> (3 * i)) & 7;
            if (noColumn(child, chosen[i])) return -3;
        }
        return add(new Node("project", n, nodes(child), chosen));
    }

    int join(int left, int right, int keys, int kind) {
        if (refusal(left, right) != 0) return refusal(left, right);
        if (!in(kind, 0, 3)) return -6;
        int leftKey = keys & 7;
        int rightKey = (keys >> 3) & 7;
        if (noColumn(left, leftKey) || noColumn(right, rightKey)) return -3;
        boolean both = kind == 0 || kind == 3;
        if (both && width(left) + width(right) > 6) return -7;
        return add(new Node("join", both ? width(left) + width(right) : width(left), nodes(left, right), kind, leftKey,
                rightKey));
    }

    int union(int left, int right) {
        if (refusal(left, right) != 0) return refusal(left, right);
        if (width(left) != width(right)) return -2;
        return add(new Node("union", width(left), nodes(left, right)));
    }

    int group(int child, int keyColumn, int aggregate, int valueColumn) {
        if (refusal(child) != 0) return refusal(child);
        if (noColumn(child, keyColumn) || noColumn(child, valueColumn)) return -3;
        if (!in(aggregate, 0, 3)) return -6;
        return add(new Node("group", 2, nodes(child), keyColumn, aggregate, valueColumn));
    }

    int distinct(int child) {
        if (refusal(child) != 0) return refusal(child);
        return add(new Node("distinct", width(child), nodes(child)));
    }

    int limit(int child, int n) {
        if (refusal(child) != 0) return refusal(child);
        return add(new Node("limit", width(child), nodes(child), Math.max(0, n)));
    }

    int sort(int child, int column, boolean descending) {
        if (refusal(child) != 0) return refusal(child);
        if (noColumn(child, column)) return -3;
        return add(new Node("sort", width(child), nodes(child), column, descending ? -1 : 1));
    }

    int run(int node) {
        if (!in(node, 0, plan.size() - 1)) return -4;
        if (bound(plan.get(node)) > 24) return -10;
        result = list(plan.get(node));
        resultWidth = plan.get(node).width;
        return result.size();
    }

    int resultRows() {
        return result.size();
    }

    int resultWidth() {
        return resultWidth;
    }

    int cell(int row, int column) {
        return in(row, 0, result.size() - 1) && in(column, 0, resultWidth - 1) ? result.get(row)[column] : 0;
    }

    int width(int node) {
        return in(node, 0, plan.size() - 1) ? plan.get(node).width : -4;
    }

    int tableRows(int table) {
        return noTable(table) ? -1 : tables.get(table).rows.size();
    }

    /** A million stands for TOO_BIG. */
    private long bound(Node node) {
        List<Long> of = new ArrayList<>();
        for (Node child : node.children) {
            of.add(bound(child));
            if (of.get(of.size() - 1) > 24) return 1_000_000;
        }
        switch (node.kind) {
            case "scan": return tables.get(node.with[0]).rows.size();
            case "union": return of.get(0) + of.get(1);
            case "limit": return Math.min(node.with[0], of.get(0));
            case "join":
                if (node.with[0] == 0) return of.get(0) * of.get(1);
                return node.with[0] == 3 ? of.get(0) * Math.max(1, of.get(1)) : of.get(0);
            default: return of.get(0);
        }
    }

    private static boolean fulfils(int a, int cmp, int b) {
        int order = Integer.compare(a, b);
        return new boolean[] {order == 0, order != 0, order < 0, order <= 0, order > 0, order >= 0}[cmp];
    }

    private static int[] both(int[] left, int[] right) {
        int[] row = Arrays.copyOf(left, left.length + right.length);
        System.arraycopy(right, 0, row, left.length, right.length);
        return row;
    }

    private List<int[]> list(Node node) {
        List<int[]> rows = new ArrayList<>();
        int[] with = node.with;
        if (node.kind.equals("scan")) {
            tables.get(with[0]).rows.forEach(row -> rows.add(row.clone()));
            return rows;
        }
        List<int[]> s = list(node.children[0]);
        switch (node.kind) {
            case "filter":
                s.stream().filter(r -> fulfils(r[with[0]], with[1], with[2])).forEach(rows::add);
                return rows;
            case "filterCols":
                s.stream().filter(r -> fulfils(r[with[0]], with[1], r[with[2]])).forEach(rows::add);
                return rows;
            case "map":
                s.forEach(r -> rows.add(both(r, new int[] {mapped(with[0], r[with[1]], r[with[2]])})));
                return rows;
            case "project":
                s.forEach(r -> rows.add(Arrays.stream(with).map(column -> r[column]).toArray()));
                return rows;
            case "join":
                s.forEach(r -> join(rows, node, r, list(node.children[1])));
                return rows;
            case "union":
                rows.addAll(s);
                rows.addAll(list(node.children[1]));
                return rows;
            case "group":
                return groups(s, with[0], with[1], with[2]);
            case "distinct":
                Map<String, int[]> first = new LinkedHashMap<>();
                s.forEach(r -> first.putIfAbsent(Arrays.toString(r), r));
                return new ArrayList<>(first.values());
            case "limit":
                return new ArrayList<>(s.subList(0, Math.min(with[0], s.size())));
            default:
                rows.addAll(s);
                rows.sort((a, b) -> with[1] * Integer.compare(a[with[0]], b[with[0]]));
                return rows;
        }
    }

    private static int mapped(int op, int a, int b) {
        long wide = op == 0 ? (long) a + b : op == 1 ? (long) a - b : (long) a * b;
        return op < 3 ? (int) wide : op == 3 ? Math.min(a, b) : Math.max(a, b);
    }

    private static void join(List<int[]> rows, Node node, int[] left, List<int[]> q) {
        List<int[]> matches = new ArrayList<>(q);
        matches.removeIf(right -> right[node.with[2]] != left[node.with[1]]);
        int kind = node.with[0];
        if (kind == 3 && matches.isEmpty()) {
            rows.add(Arrays.copyOf(left, node.width));
        } else if (kind == 0 || kind == 3) {
            matches.forEach(right -> rows.add(both(left, right)));
        } else if (matches.isEmpty() == (kind == 2)) {
            rows.add(left);
        }
    }

    private static List<int[]> groups(List<int[]> s, int key, int aggregate, int value) {
        Map<Integer, List<Integer>> values = new LinkedHashMap<>();
        s.forEach(r -> values.computeIfAbsent(r[key], none -> new ArrayList<>()).add(r[value]));
        List<int[]> rows = new ArrayList<>();
        values.forEach((k, all) -> {
            int count = all.size();
            int sum = all.stream().mapToInt(v -> v).sum();
            int min = all.stream().mapToInt(v -> v).min().getAsInt();
            int max = all.stream().mapToInt(v -> v).max().getAsInt();
            rows.add(new int[] {k, new int[] {count, sum, min, max}[aggregate]});
        });
        return rows;
    }
}
