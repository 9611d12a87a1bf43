/** Promises 6 to 17 and 22, the making of nodes: indices, widths, and every refusal in its order. */
public final class PlanTest {
    private static final int LOW = Integer.MIN_VALUE;
    private static final int HIGH = Integer.MAX_VALUE;
    private static final int PLAN_FULL = QueryPushCompiler.PLAN_FULL;
    private static final int BAD_TABLE = QueryPushCompiler.BAD_TABLE;
    private static final int BAD_NODE = QueryPushCompiler.BAD_NODE;
    private static final int CHILD_USED = QueryPushCompiler.CHILD_USED;
    private static final int BAD_COLUMN = QueryPushCompiler.BAD_COLUMN;
    private static final int BAD_KIND = QueryPushCompiler.BAD_KIND;
    private static final int BAD_WIDTH = QueryPushCompiler.BAD_WIDTH;
    private static final int TOO_WIDE = QueryPushCompiler.TOO_WIDE;
    private static final Due due = new Due();

    public static void main(String[] args) {
        clearPlanDropsNodesOnly();
        aFullPlanRefusesEveryNodeFirst();
        aFullPlanStillAnswers();
        scanRefuses();
        filterRefusesInOrder();
        filterColsRefusesInOrder();
        mapRefusesInOrder();
        projectRefusesInOrder();
        joinRefusesChildrenInOrder();
        joinRefusesInOrder();
        unionRefusesInOrder();
        groupRefusesInOrder();
        distinctLimitAndSortRefuse();
        everyKindUsesItsChild();
        everyKindHasItsWidth();
        widthRefuses();
        due.end();
    }

    /** Node 0 is a scan of width 2 that is free, node 1 one of width 3 that is free, node 2 one that node 3 uses. */
    private static QueryPushCompiler plan() {
        QueryPushCompiler x = new QueryPushCompiler(2);
        x.defineTable(1, 3);
        x.scan(0);
        x.scan(1);
        x.scan(0);
        x.distinct(2);
        return x;
    }

    private static void stillFourNodes(QueryPushCompiler x) {
        due.answer("a refused call made no node", x.width(4), BAD_NODE);
        due.answer("node 0 is free", x.limit(0, 1), 4);
        due.answer("node 1 is free", x.limit(1, 1), 5);
        due.answer("node 3 is free", x.limit(3, 1), 6);
    }

    private static QueryPushCompiler fullPlan() {
        QueryPushCompiler x = new QueryPushCompiler(1);
        x.addRow(0, 3, 4, 5);
        for (int node = 0; node < 12; node++) {
            due.answer("scan", x.scan(0), node);
        }
        return x;
    }

    private static void clearPlanDropsNodesOnly() {
        QueryPushCompiler x = new QueryPushCompiler(2);
        x.addRow(1, 8, 9, 0);
        x.clearPlan();
        due.answer("first node", x.scan(1), 0);
        due.answer("second node", x.limit(0, 5), 1);
        due.list("before", x, 1, 2, Due.row(8, 9));
        x.clearPlan();
        due.answer("no node 0", x.width(0), BAD_NODE);
        due.answer("no node 0", x.run(0), BAD_NODE);
        due.answer("no child 0", x.distinct(0), BAD_NODE);
        due.answer("tables stay", x.tableRows(1), 1);
        due.result("the result stays", x, 2, Due.row(8, 9));
        due.answer("indices begin again", x.scan(0), 0);
        due.answer("the new node is nobody's child", x.distinct(0), 1);
        QueryPushCompiler full = fullPlan();
        full.clearPlan();
        due.answer("a full plan is cleared", full.scan(0), 0);
    }

    private static void aFullPlanRefusesEveryNodeFirst() {
        QueryPushCompiler x = fullPlan();
        int[] arguments = {0, -1, 11, 12, HIGH, LOW};
        for (int a : arguments) {
            due.answer("scan", x.scan(a), PLAN_FULL);
            due.answer("filter", x.filter(a, a, a, a), PLAN_FULL);
            due.answer("filterCols", x.filterCols(a, a, a, a), PLAN_FULL);
            due.answer("map", x.map(a, a, a, a), PLAN_FULL);
            due.answer("project", x.project(a, a, a), PLAN_FULL);
            due.answer("join", x.join(a, a, a, a), PLAN_FULL);
            due.answer("union", x.union(a, a), PLAN_FULL);
            due.answer("group", x.group(a, a, a, a), PLAN_FULL);
            due.answer("distinct", x.distinct(a), PLAN_FULL);
            due.answer("limit", x.limit(a, a), PLAN_FULL);
            due.answer("sort", x.sort(a, a, true), PLAN_FULL);
        }
        due.answer("no 13th node", x.width(12), BAD_NODE);
    }

    private static void aFullPlanStillAnswers() {
        QueryPushCompiler x = fullPlan();
        due.list("run of the last node", x, 11, 2, Due.row(3, 4));
        due.answer("width", x.width(11), 2);
        due.answer("tableRows", x.tableRows(0), 1);
        due.answer("addRow", x.addRow(0, 1, 1, 1), 1);
        due.answer("run of no node", x.run(12), BAD_NODE);
    }

    private static void scanRefuses() {
        QueryPushCompiler x = plan();
        due.answer("scan(2)", x.scan(2), BAD_TABLE);
        due.answer("scan(-1)", x.scan(-1), BAD_TABLE);
        due.answer("scan(LOW)", x.scan(LOW), BAD_TABLE);
        due.answer("scan(HIGH)", x.scan(HIGH), BAD_TABLE);
        stillFourNodes(x);
        due.answer("one table may be scanned often", x.scan(1), 7);
        due.answer("its width", x.width(7), 3);
    }

    private static void filterRefusesInOrder() {
        QueryPushCompiler x = plan();
        for (int none : new int[] {4, -1, 12, LOW, HIGH}) {
            due.answer("no child", x.filter(none, 9, 9, 0), BAD_NODE);
        }
        due.answer("a used child", x.filter(2, 9, 9, 0), CHILD_USED);
        for (int none : new int[] {2, -1, LOW, HIGH}) {
            due.answer("no column", x.filter(0, none, 9, 0), BAD_COLUMN);
        }
        due.answer("no column of three", x.filter(1, 3, 0, 0), BAD_COLUMN);
        for (int none : new int[] {6, -1, LOW, HIGH}) {
            due.answer("no comparison", x.filter(0, 1, none, 0), BAD_KIND);
        }
        stillFourNodes(x);
        due.answer("the last column and comparison", x.filter(4, 1, 5, LOW), 7);
        due.answer("the first column and comparison", x.filter(7, 0, 0, HIGH), 8);
    }

    private static void filterColsRefusesInOrder() {
        QueryPushCompiler x = plan();
        for (int none : new int[] {4, -1, 12, LOW, HIGH}) {
            due.answer("no child", x.filterCols(none, 9, 9, 9), BAD_NODE);
        }
        due.answer("a used child", x.filterCols(2, 9, 9, 9), CHILD_USED);
        for (int none : new int[] {2, -1, LOW, HIGH}) {
            due.answer("no column A", x.filterCols(0, none, 9, 0), BAD_COLUMN);
            due.answer("no column B", x.filterCols(0, 0, 9, none), BAD_COLUMN);
        }
        for (int none : new int[] {6, -1, LOW, HIGH}) {
            due.answer("no comparison", x.filterCols(0, 1, none, 1), BAD_KIND);
        }
        stillFourNodes(x);
        due.answer("the last columns and comparison", x.filterCols(4, 1, 5, 1), 7);
        due.answer("the first columns and comparison", x.filterCols(7, 0, 0, 0), 8);
    }

    private static void mapRefusesInOrder() {
        QueryPushCompiler x = plan();
        for (int none : new int[] {4, -1, 12, LOW, HIGH}) {
            due.answer("no child", x.map(none, 9, 9, 9), BAD_NODE);
        }
        due.answer("a used child", x.map(2, 9, 9, 9), CHILD_USED);
        for (int none : new int[] {5, -1, LOW, HIGH}) {
            due.answer("no operation", x.map(0, none, 9, 9), BAD_KIND);
        }
        for (int none : new int[] {2, -1, LOW, HIGH}) {
            due.answer("no column A", x.map(0, 0, none, 0), BAD_COLUMN);
            due.answer("no column B", x.map(0, 0, 0, none), BAD_COLUMN);
        }
        stillFourNodes(x);
        due.answer("3 wide", x.map(5, 4, 2, 2), 7);
        due.answer("4 wide", x.map(7, 0, 3, 3), 8);
        due.answer("5 wide", x.map(8, 0, 4, 4), 9);
        due.answer("width 6", x.width(9), 6);
        due.answer("6 wide, no operation", x.map(9, 5, 6, 6), BAD_KIND);
        due.answer("6 wide, no column", x.map(9, 0, 6, 0), BAD_COLUMN);
        due.answer("6 wide", x.map(9, 0, 5, 5), TOO_WIDE);
        due.answer("the refused call left it free", x.distinct(9), 10);
    }

    private static void projectRefusesInOrder() {
        QueryPushCompiler x = plan();
        for (int none : new int[] {4, -1, 12, LOW, HIGH}) {
            due.answer("no child", x.project(none, 077, 9), BAD_NODE);
        }
        due.answer("a used child", x.project(2, 077, 9), CHILD_USED);
        for (int none : new int[] {0, 7, -1, LOW, HIGH}) {
            due.answer("no width", x.project(0, 077, none), BAD_WIDTH);
        }
        due.answer("the first is none", x.project(0, 02, 1), BAD_COLUMN);
        due.answer("the second is none", x.project(0, 020, 2), BAD_COLUMN);
        due.answer("the sixth is none", x.project(0, 0200000, 6), BAD_COLUMN);
        due.answer("column 7", x.project(1, 07, 1), BAD_COLUMN);
        due.answer("all ones", x.project(1, -1, 1), BAD_COLUMN);
        stillFourNodes(x);
        due.answer("columns behind the n-th are not looked at", x.project(4, 0777701, 2), 7);
        due.answer("width 2", x.width(7), 2);
        due.answer("six of two", x.project(7, LOW | 0101010, 6), 8);
        due.answer("width 6", x.width(8), 6);
        due.answer("one of six", x.project(8, -3, 1), 9);
        due.answer("width 1", x.width(9), 1);
    }

    private static void joinRefusesChildrenInOrder() {
        QueryPushCompiler x = plan();
        for (int none : new int[] {4, -1, 12, LOW, HIGH}) {
            due.answer("no left", x.join(none, 0, 077, 9), BAD_NODE);
            due.answer("no right", x.join(0, none, 077, 9), BAD_NODE);
            due.answer("neither, and equal", x.join(none, none, 077, 9), BAD_NODE);
            due.answer("a used left, no right", x.join(2, none, 077, 9), BAD_NODE);
            due.answer("no left, a used right", x.join(none, 2, 077, 9), BAD_NODE);
        }
        due.answer("a used left", x.join(2, 0, 077, 9), CHILD_USED);
        due.answer("a used right", x.join(0, 2, 077, 9), CHILD_USED);
        due.answer("left is right", x.join(0, 0, 077, 9), CHILD_USED);
        due.answer("left is right, good otherwise", x.join(0, 0, 0, 0), CHILD_USED);
        stillFourNodes(x);
    }

    private static void joinRefusesInOrder() {
        QueryPushCompiler x = plan();
        for (int none : new int[] {4, -1, LOW, HIGH}) {
            due.answer("no kind", x.join(0, 1, 077, none), BAD_KIND);
        }
        for (int kind = 0; kind < 4; kind++) {
            due.answer("no left key", x.join(0, 1, 2, kind), BAD_COLUMN);
            due.answer("no left key", x.join(0, 1, 7, kind), BAD_COLUMN);
            due.answer("no right key", x.join(0, 1, 3 << 3, kind), BAD_COLUMN);
            due.answer("no right key", x.join(1, 0, 2 << 3, kind), BAD_COLUMN);
            due.answer("no key", x.join(0, 1, -1, kind), BAD_COLUMN);
        }
        stillFourNodes(x);
        due.answer("3 wide", x.map(5, 0, 0, 0), 7);
        due.answer("4 + 2 is no more than 6", x.join(7, 4, ~077 | 013, QueryPushCompiler.INNER), 8);
        due.answer("width 6", x.width(8), 6);
        due.answer("6 + 2, no kind", x.join(8, 6, 077, 4), BAD_KIND);
        due.answer("6 + 2, no key", x.join(8, 6, 6, QueryPushCompiler.INNER), BAD_COLUMN);
        due.answer("6 + 2 inner", x.join(8, 6, 5, QueryPushCompiler.INNER), TOO_WIDE);
        due.answer("6 + 2 outer", x.join(8, 6, 5, QueryPushCompiler.OUTER), TOO_WIDE);
        due.answer("2 + 6 inner", x.join(6, 8, 5 << 3, QueryPushCompiler.INNER), TOO_WIDE);
        due.answer("2 + 6 outer", x.join(6, 8, 5 << 3, QueryPushCompiler.OUTER), TOO_WIDE);
        due.answer("6 semi", x.join(8, 6, 5, QueryPushCompiler.SEMI), 9);
        due.answer("width 6", x.width(9), 6);
        due.answer("scan", x.scan(0), 10);
        due.answer("2 anti", x.join(10, 9, 051, QueryPushCompiler.ANTI), 11);
        due.answer("width 2", x.width(11), 2);
        joinOfSevenIsTooWide();
    }

    private static void joinOfSevenIsTooWide() {
        QueryPushCompiler x = plan();
        due.answer("4 wide", x.map(1, 0, 0, 0), 4);
        due.answer("3 wide", x.map(0, 0, 0, 0), 5);
        due.answer("7 inner", x.join(4, 5, 0, QueryPushCompiler.INNER), TOO_WIDE);
        due.answer("7 outer", x.join(5, 4, 0, QueryPushCompiler.OUTER), TOO_WIDE);
        due.answer("scan", x.scan(1), 6);
        due.answer("6 outer", x.join(5, 6, 0, QueryPushCompiler.OUTER), 7);
        due.answer("width 6", x.width(7), 6);
    }

    private static void unionRefusesInOrder() {
        QueryPushCompiler x = plan();
        for (int none : new int[] {4, -1, 12, LOW, HIGH}) {
            due.answer("no left", x.union(none, 1), BAD_NODE);
            due.answer("no right", x.union(1, none), BAD_NODE);
            due.answer("neither, and equal", x.union(none, none), BAD_NODE);
            due.answer("a used left, no right", x.union(2, none), BAD_NODE);
            due.answer("no left, a used right", x.union(none, 2), BAD_NODE);
        }
        due.answer("a used left", x.union(2, 1), CHILD_USED);
        due.answer("a used right", x.union(1, 2), CHILD_USED);
        due.answer("left is right", x.union(0, 0), CHILD_USED);
        due.answer("2 and 3", x.union(0, 1), BAD_WIDTH);
        due.answer("3 and 2", x.union(1, 0), BAD_WIDTH);
        stillFourNodes(x);
        due.answer("2 and 2", x.union(4, 6), 7);
        due.answer("width 2", x.width(7), 2);
    }

    private static void groupRefusesInOrder() {
        QueryPushCompiler x = plan();
        for (int none : new int[] {4, -1, 12, LOW, HIGH}) {
            due.answer("no child", x.group(none, 9, 9, 9), BAD_NODE);
        }
        due.answer("a used child", x.group(2, 9, 9, 9), CHILD_USED);
        for (int none : new int[] {2, -1, LOW, HIGH}) {
            due.answer("no key column, no aggregate", x.group(0, none, 9, 0), BAD_COLUMN);
            due.answer("no value column, no aggregate", x.group(0, 0, 9, none), BAD_COLUMN);
            due.answer("no value column to count", x.group(0, 0, QueryPushCompiler.COUNT, none), BAD_COLUMN);
        }
        for (int none : new int[] {4, -1, LOW, HIGH}) {
            due.answer("no aggregate", x.group(0, 1, none, 1), BAD_KIND);
        }
        stillFourNodes(x);
        due.answer("the last columns and aggregate", x.group(5, 2, 3, 2), 7);
        due.answer("width 2", x.width(7), 2);
    }

    private static void distinctLimitAndSortRefuse() {
        QueryPushCompiler x = plan();
        for (int none : new int[] {4, -1, 12, LOW, HIGH}) {
            due.answer("distinct of none", x.distinct(none), BAD_NODE);
            due.answer("limit of none", x.limit(none, -1), BAD_NODE);
            due.answer("sort of none", x.sort(none, 9, true), BAD_NODE);
        }
        due.answer("distinct of a used child", x.distinct(2), CHILD_USED);
        due.answer("limit of a used child", x.limit(2, 1), CHILD_USED);
        due.answer("sort of a used child", x.sort(2, 9, false), CHILD_USED);
        for (int none : new int[] {2, -1, LOW, HIGH}) {
            due.answer("sort by none", x.sort(0, none, true), BAD_COLUMN);
            due.answer("sort by none", x.sort(0, none, false), BAD_COLUMN);
        }
        stillFourNodes(x);
        due.answer("distinct", x.distinct(4), 7);
        due.answer("limit LOW", x.limit(7, LOW), 8);
        due.answer("limit HIGH", x.limit(8, HIGH), 9);
        due.answer("sort", x.sort(9, 1, true), 10);
        due.answer("sort", x.sort(10, 0, false), 11);
    }

    private static int make(QueryPushCompiler x, int kind, int child, int other) {
        switch (kind) {
            case 0: return x.filter(child, 0, 0, 0);
            case 1: return x.filterCols(child, 0, 0, 0);
            case 2: return x.map(child, 0, 0, 0);
            case 3: return x.project(child, 01010, 5);
            case 4: return x.join(child, other, 0, QueryPushCompiler.INNER);
            case 5: return x.join(child, other, 0, QueryPushCompiler.SEMI);
            case 6: return x.join(child, other, 0, QueryPushCompiler.ANTI);
            case 7: return x.join(child, other, 0, QueryPushCompiler.OUTER);
            case 8: return x.union(child, other);
            case 9: return x.group(child, 0, 0, 0);
            case 10: return x.distinct(child);
            case 11: return x.limit(child, 1);
            default: return x.sort(child, 0, false);
        }
    }

    private static void everyKindUsesItsChild() {
        for (int kind = 0; kind <= 12; kind++) {
            boolean pair = kind >= 4 && kind <= 8;
            QueryPushCompiler x = new QueryPushCompiler(1);
            x.scan(0);
            x.scan(0);
            x.scan(0);
            due.answer("kind " + kind, make(x, kind, 0, 1), 3);
            for (int again = 0; again <= 12; again++) {
                due.answer("kind " + again + " on a child of kind " + kind, make(x, again, 0, 2), CHILD_USED);
            }
            due.answer("right side of kind " + kind, x.distinct(1), pair ? CHILD_USED : 4);
            due.answer("the node that isn't named stays free", x.distinct(2), pair ? 4 : 5);
            due.answer("the new node is free", x.distinct(3), pair ? 5 : 6);
        }
    }

    private static void everyKindHasItsWidth() {
        int[] want = {3, 3, 4, 5, 6, 3, 3, 6, 3, 2, 3, 3, 3};
        for (int kind = 0; kind <= 12; kind++) {
            QueryPushCompiler x = new QueryPushCompiler(1);
            x.defineTable(0, 3);
            x.scan(0);
            x.scan(0);
            due.answer("kind " + kind, make(x, kind, 0, 1), 2);
            due.answer("width of kind " + kind, x.width(2), want[kind]);
            due.list("list of kind " + kind, x, 2, want[kind]);
        }
    }

    private static void widthRefuses() {
        QueryPushCompiler x = plan();
        for (int none : new int[] {4, -1, 11, 12, LOW, HIGH}) {
            due.answer("width of none", x.width(none), BAD_NODE);
        }
        due.answer("width", x.width(0), 2);
        due.answer("width of a child", x.width(2), 2);
        due.answer("width", x.width(1), 3);
    }
}
