import java.util.List;
import java.util.function.Supplier;
import java.util.function.ToIntFunction;

/** The sentences on nodes, and of promises 6 to 17 and 22, that name an edge, each with a test of its own. */
public final class PlanEdgeTest {
    private static final int LOW = Scenes.LOW;
    private static final int HIGH = Scenes.HIGH;
    private static final int BAD_TABLE = QueryPushCompiler.BAD_TABLE;
    private static final int BAD_WIDTH = QueryPushCompiler.BAD_WIDTH;
    private static final int BAD_COLUMN = QueryPushCompiler.BAD_COLUMN;
    private static final int BAD_NODE = QueryPushCompiler.BAD_NODE;
    private static final int CHILD_USED = QueryPushCompiler.CHILD_USED;
    private static final int BAD_KIND = QueryPushCompiler.BAD_KIND;
    private static final int TOO_WIDE = QueryPushCompiler.TOO_WIDE;
    private static final int PLAN_FULL = QueryPushCompiler.PLAN_FULL;
    private static final int INNER = QueryPushCompiler.INNER;
    private static final int SEMI = QueryPushCompiler.SEMI;
    private static final int ANTI = QueryPushCompiler.ANTI;
    private static final int OUTER = QueryPushCompiler.OUTER;
    private static final int COUNT = QueryPushCompiler.COUNT;

    private interface Call {
        int on(QueryPushCompiler x, int child);
    }

    private interface PairCall {
        int on(QueryPushCompiler x, int left, int right);
    }

    /** A call on one child: once good in all else, and once wrong in everything behind the child that can be wrong. */
    private record Maker(int promise, String name, Call good, Call wrong) {
    }

    private record PairMaker(int promise, PairCall good, PairCall wrong) {
    }

    private static final List<Maker> MAKERS = List.of(
            new Maker(8, "filter", (x, c) -> x.filter(c, 0, 0, 0), (x, c) -> x.filter(c, -1, 6, 0)),
            new Maker(9, "filterCols", (x, c) -> x.filterCols(c, 0, 0, 0), (x, c) -> x.filterCols(c, -1, 6, 9)),
            new Maker(10, "map", (x, c) -> x.map(c, 0, 0, 0), (x, c) -> x.map(c, 5, -1, 9)),
            new Maker(11, "project", (x, c) -> x.project(c, 0, 1), (x, c) -> x.project(c, -1, 7)),
            new Maker(14, "group", (x, c) -> x.group(c, 0, 0, 0), (x, c) -> x.group(c, -1, 4, 9)),
            new Maker(15, "distinct", (x, c) -> x.distinct(c), (x, c) -> x.distinct(c)),
            new Maker(16, "limit", (x, c) -> x.limit(c, 1), (x, c) -> x.limit(c, -1)),
            new Maker(17, "sort", (x, c) -> x.sort(c, 0, false), (x, c) -> x.sort(c, -1, true)));

    private static final List<PairMaker> PAIR_MAKERS = List.of(
            new PairMaker(12, (x, l, r) -> x.join(l, r, 0, INNER), (x, l, r) -> x.join(l, r, 077, -1)),
            new PairMaker(12, (x, l, r) -> x.join(l, r, 0, SEMI), (x, l, r) -> x.join(l, r, 077, 4)),
            new PairMaker(12, (x, l, r) -> x.join(l, r, 0, ANTI), (x, l, r) -> x.join(l, r, 077, LOW)),
            new PairMaker(12, (x, l, r) -> x.join(l, r, 0, OUTER), (x, l, r) -> x.join(l, r, 077, HIGH)),
            new PairMaker(13, (x, l, r) -> x.union(l, r), (x, l, r) -> x.union(l, r)));

    private static final Due due = new Due();

    public static void main(String[] args) {
        aPlanHasAtMostTwelveNodes();
        indicesHaveNoGap();
        aNodeIsTheChildOfOne();
        aRefusedPairUsesNeither();
        aFullPlanRefusesOnlyNewNodes();
        clearPlanOfEverySize();
        clearPlanKeepsTablesAndResult();
        scanInAFullPlan();
        scanOfNoTable();
        for (Maker maker : MAKERS) {
            planFull(maker);
            noSuchChild(maker);
            usedChild(maker);
        }
        for (PairMaker maker : PAIR_MAKERS) {
            planFull(maker);
            noSuchPair(maker);
            usedPair(maker);
        }
        filterOfNoColumn();
        filterOfNoComparison();
        filterColsOfNoColumn();
        filterColsOfNoComparison();
        mapOfNoOperation();
        mapOfNoColumn();
        mapOfAWideChild();
        projectOfNoWidth();
        projectOfNoColumn();
        projectReadsThreeBitsEach();
        projectChoosesMoreThanOnce();
        joinLooksAtSixBits();
        joinOfNoKind();
        joinOfNoColumn();
        joinTooWide();
        unionOfTwoWidths();
        groupOfNoColumn();
        groupOfNoAggregate();
        limitBelowZero();
        sortOfNoColumn();
        widthAsTheChilds();
        widthOfAMap();
        widthOfAGroup();
        widthOfEveryNode();
        widthOfNoNode();
        due.end();
    }

    private static void unchanged(Supplier<QueryPushCompiler> scene, String name, ToIntFunction<QueryPushCompiler> call,
            int want) {
        new Twins(due, scene).unchangedBy(name, call, want);
    }

    private static void refused(String name, ToIntFunction<QueryPushCompiler> call, int want) {
        unchanged(Scenes::usual, name, call, want);
    }

    /** An object with so many nodes, scans of an empty table 2 wide. */
    private static QueryPushCompiler scans(int nodes) {
        QueryPushCompiler x = new QueryPushCompiler(1);
        for (int node = 0; node < nodes; node++) {
            x.scan(0);
        }
        return x;
    }

    private static void aPlanHasAtMostTwelveNodes() {
        due.sentence("Terms", "A plan has at most 12.");
        QueryPushCompiler x = scans(11);
        due.answer("a 12th node", x.scan(0), 11);
        due.answer("a 13th node", x.scan(0), PLAN_FULL);
        due.answer("and again", x.distinct(11), PLAN_FULL);
        due.answer("the 12th is there", x.width(11), 2);
        due.answer("the 13th isn't", x.width(12), BAD_NODE);
    }

    private static void indicesHaveNoGap() {
        due.sentence("Terms", "A new node gets the next index, from 0, and the call answers it.");
        QueryPushCompiler x = new QueryPushCompiler(1);
        for (int node = 0; node < 12; node++) {
            due.answer("a scan of none", x.scan(1), BAD_TABLE);
            due.answer("a node of none", x.distinct(node), BAD_NODE);
            due.answer("a node", node % 2 == 0 ? x.scan(0) : x.distinct(node - 1), node);
        }
        x.clearPlan();
        due.answer("from 0 again", x.scan(0), 0);
    }

    private static void aNodeIsTheChildOfOne() {
        due.sentence("Terms", "A node may be the child of at most one other node.");
        for (Maker first : MAKERS) {
            for (Maker second : MAKERS) {
                QueryPushCompiler x = scans(2);
                due.answer(first.name(), first.good().on(x, 0), 2);
                due.answer(second.name() + " behind " + first.name(), second.good().on(x, 0), CHILD_USED);
                due.answer(second.name() + " of the new one", second.good().on(x, 2), 3);
            }
        }
        for (PairMaker pair : PAIR_MAKERS) {
            QueryPushCompiler x = scans(3);
            due.answer("a pair", pair.good().on(x, 0, 1), 3);
            for (int child = 0; child < 2; child++) {
                due.answer("a child of the pair", x.limit(child, 1), CHILD_USED);
                due.answer("a child of the pair on the left", pair.good().on(x, child, 2), CHILD_USED);
                due.answer("a child of the pair on the right", pair.good().on(x, 2, child), CHILD_USED);
            }
            due.answer("the pair itself", x.limit(3, 1), 4);
        }
    }

    private static void aRefusedPairUsesNeither() {
        due.sentence("Terms", "A refused call changes nothing.");
        refused("no right", x -> x.join(0, 6, 0, INNER), BAD_NODE);
        refused("no left", x -> x.union(6, 0), BAD_NODE);
        refused("a used right", x -> x.join(0, 2, 0, INNER), CHILD_USED);
        refused("a used left", x -> x.union(2, 0), CHILD_USED);
        refused("a node with itself", x -> x.union(0, 0), CHILD_USED);
        refused("no kind", x -> x.join(0, 1, 0, 4), BAD_KIND);
        refused("no right key", x -> x.join(0, 1, 070, SEMI), BAD_COLUMN);
        refused("too wide", x -> x.join(0, 5, 0, OUTER), TOO_WIDE);
        refused("two widths", x -> x.union(0, 1), BAD_WIDTH);
    }

    /** PLAN_FULL isn't among what the promises of these calls name. */
    private static void aFullPlanRefusesOnlyNewNodes() {
        due.sentence("Terms", "the plan has 12 nodes: PLAN_FULL; then what it names, in the order given.");
        unchanged(Scenes::fullPlan, "resultRows()", x -> x.resultRows(), 2);
        unchanged(Scenes::fullPlan, "resultWidth()", x -> x.resultWidth(), 2);
        unchanged(Scenes::fullPlan, "cell(1, 1)", x -> x.cell(1, 1), 7);
        unchanged(Scenes::fullPlan, "cell(2, 0)", x -> x.cell(2, 0), 0);
        unchanged(Scenes::fullPlan, "width(11)", x -> x.width(11), 1);
        unchanged(Scenes::fullPlan, "width(12)", x -> x.width(12), BAD_NODE);
        unchanged(Scenes::fullPlan, "tableRows(2)", x -> x.tableRows(2), 10);
        unchanged(Scenes::fullPlan, "tableRows(3)", x -> x.tableRows(3), BAD_TABLE);
        unchanged(Scenes::fullPlan, "run(12)", x -> x.run(12), BAD_NODE);
        due.list("run(0)", Scenes.fullPlan(), 0, 2, Due.row(4, 5), Due.row(4, 5), Due.row(-6, 7));
        due.answer("run(11)", Scenes.fullPlan().run(11), 10);
    }

    private static void clearPlanOfEverySize() {
        due.sentence("Promise 6", "Drops all nodes.");
        for (int nodes = 0; nodes <= 12; nodes++) {
            QueryPushCompiler x = scans(nodes);
            if (nodes > 0) {
                x.limit(0, 1);
            }
            x.clearPlan();
            for (int node = 0; node < 12; node++) {
                due.answer("width(" + node + ") of " + nodes, x.width(node), BAD_NODE);
                due.answer("run(" + node + ") of " + nodes, x.run(node), BAD_NODE);
            }
            due.answer("no scan is left", x.defineTable(0, 3), 0);
            for (int node = 0; node < 12; node++) {
                due.answer("a new node after " + nodes, x.scan(0), node);
            }
            due.answer("a 13th", x.scan(0), PLAN_FULL);
        }
        QueryPushCompiler x = scans(1);
        x.limit(0, 1);
        x.clearPlan();
        x.scan(0);
        due.answer("the new node 0 is nobody's child", x.limit(0, 1), 1);
    }

    private static void clearPlanKeepsTablesAndResult() {
        due.sentence("Promise 6", "Tables and the result stay.");
        QueryPushCompiler x = Scenes.fullPlan();
        x.clearPlan();
        due.result("the result", x, 2, Due.row(4, 5), Due.row(-6, 7));
        due.answer("a full table", x.tableRows(2), 10);
        due.list("table 0", x, x.scan(0), 2, Due.row(4, 5), Due.row(4, 5), Due.row(-6, 7));
        due.list("table 1", x, x.scan(1), 3, Due.row(1, 2, 3), Due.row(4, 5, 6));
        QueryPushCompiler none = new QueryPushCompiler(1);
        none.clearPlan();
        due.result("no result yet", none, 0);
    }

    private static void scanInAFullPlan() {
        due.sentence("Promise 7", "PLAN_FULL");
        unchanged(Scenes::fullPlan, "scan(0)", x -> x.scan(0), PLAN_FULL);
        for (int table : Scenes.outside(0, 2)) {
            unchanged(Scenes::fullPlan, "scan(" + table + ")", x -> x.scan(table), PLAN_FULL);
        }
        due.answer("a 12th node", scans(11).scan(0), 11);
    }

    private static void scanOfNoTable() {
        due.sentence("Promise 7", "no such table: BAD_TABLE");
        for (int table : Scenes.outside(0, 2)) {
            refused("scan(" + table + ")", x -> x.scan(table), BAD_TABLE);
        }
        due.answer("the first table", Scenes.usual().scan(0), 6);
        due.answer("the last table", Scenes.usual().scan(2), 6);
    }

    private static void planFull(Maker maker) {
        due.sentence("Promise " + maker.promise(), "PLAN_FULL");
        for (int child : new int[] {0, 2, 11, 12, -1, LOW, HIGH}) {
            unchanged(Scenes::fullPlan, maker.name() + " of " + child, x -> maker.good().on(x, child), PLAN_FULL);
            unchanged(Scenes::fullPlan, maker.name() + " of " + child + ", all wrong",
                    x -> maker.wrong().on(x, child), PLAN_FULL);
        }
        due.answer("a 12th node", maker.good().on(scans(11), 10), 11);
    }

    private static void noSuchChild(Maker maker) {
        due.sentence("Promise " + maker.promise(), "BAD_NODE");
        for (int child : Scenes.outside(0, 5)) {
            refused(maker.name() + " of " + child, x -> maker.good().on(x, child), BAD_NODE);
            refused(maker.name() + " of " + child + ", all wrong", x -> maker.wrong().on(x, child), BAD_NODE);
        }
        due.answer("in an empty plan", maker.good().on(scans(0), 0), BAD_NODE);
        due.answer("itself", maker.good().on(scans(11), 11), BAD_NODE);
        due.answer("the newest node", maker.good().on(scans(3), 2), 3);
    }

    private static void usedChild(Maker maker) {
        due.sentence("Promise " + maker.promise(), "CHILD_USED");
        for (int child : new int[] {2, 4}) {
            refused(maker.name() + " of " + child, x -> maker.good().on(x, child), CHILD_USED);
        }
        refused(maker.name() + ", all wrong", x -> maker.wrong().on(x, 2), CHILD_USED);
    }

    private static void planFull(PairMaker maker) {
        due.sentence("Promise " + maker.promise(), "PLAN_FULL");
        for (int child : new int[] {0, 2, 11, 12, -1, LOW, HIGH}) {
            unchanged(Scenes::fullPlan, "a pair on " + child, x -> maker.good().on(x, child, 3), PLAN_FULL);
            unchanged(Scenes::fullPlan, "a pair under " + child, x -> maker.wrong().on(x, 3, child), PLAN_FULL);
        }
        due.answer("a 12th node", maker.good().on(scans(11), 0, 10), 11);
    }

    private static void noSuchPair(PairMaker maker) {
        due.sentence("Promise " + maker.promise(), "no such left or no such right: BAD_NODE");
        for (int none : Scenes.outside(0, 5)) {
            refused("no left " + none, x -> maker.good().on(x, none, 0), BAD_NODE);
            refused("no right " + none, x -> maker.good().on(x, 0, none), BAD_NODE);
            refused("neither, and equal", x -> maker.wrong().on(x, none, none), BAD_NODE);
            refused("no left, a used right", x -> maker.wrong().on(x, none, 2), BAD_NODE);
            refused("a used left, no right", x -> maker.wrong().on(x, 2, none), BAD_NODE);
        }
        due.answer("in an empty plan", maker.good().on(scans(0), 0, 0), BAD_NODE);
        due.answer("itself", maker.good().on(scans(1), 0, 1), BAD_NODE);
    }

    private static void usedPair(PairMaker maker) {
        due.sentence("Promise " + maker.promise(), "or left == right: CHILD_USED");
        refused("a used left", x -> maker.wrong().on(x, 2, 1), CHILD_USED);
        refused("a used right", x -> maker.wrong().on(x, 1, 4), CHILD_USED);
        refused("two used ones", x -> maker.wrong().on(x, 2, 4), CHILD_USED);
        refused("a used one with itself", x -> maker.wrong().on(x, 4, 4), CHILD_USED);
        refused("a free one with itself", x -> maker.wrong().on(x, 3, 3), CHILD_USED);
        refused("a free one with itself, good in all else", x -> maker.good().on(x, 0, 0), CHILD_USED);
        refused("a used left, good in all else", x -> maker.good().on(x, 2, 0), CHILD_USED);
        refused("a used right, good in all else", x -> maker.good().on(x, 3, 2), CHILD_USED);
    }

    /** Nodes 0, 1 and 5 of the usual scene are 2, 3 and 6 wide. */
    private static final int[][] CHILD_AND_WIDTH = {{0, 2}, {1, 3}, {5, 6}};

    private static void filterOfNoColumn() {
        due.sentence("Promise 8", "no such column in the child: BAD_COLUMN");
        for (int[] of : CHILD_AND_WIDTH) {
            for (int column : Scenes.outside(0, of[1] - 1)) {
                refused("column " + column, x -> x.filter(of[0], column, 0, 0), BAD_COLUMN);
                refused("column " + column + ", no cmp", x -> x.filter(of[0], column, 6, 0), BAD_COLUMN);
            }
            due.answer("the first column", Scenes.usual().filter(of[0], 0, 0, 0), 6);
            due.answer("the last column", Scenes.usual().filter(of[0], of[1] - 1, 0, 0), 6);
        }
    }

    private static void filterOfNoComparison() {
        due.sentence("Promise 8", "cmp not in 0 to 5: BAD_KIND");
        for (int cmp : Scenes.outside(0, 5)) {
            refused("cmp " + cmp, x -> x.filter(0, 1, cmp, 0), BAD_KIND);
        }
        for (int cmp = 0; cmp <= 5; cmp++) {
            due.answer("cmp " + cmp, Scenes.usual().filter(0, 1, cmp, LOW), 6);
        }
    }

    private static void filterColsOfNoColumn() {
        due.sentence("Promise 9", "columnA or columnB not a column of the child: BAD_COLUMN");
        for (int[] of : CHILD_AND_WIDTH) {
            for (int column : Scenes.outside(0, of[1] - 1)) {
                refused("columnA " + column, x -> x.filterCols(of[0], column, 0, 0), BAD_COLUMN);
                refused("columnB " + column, x -> x.filterCols(of[0], 0, 0, column), BAD_COLUMN);
                refused("both " + column + ", no cmp", x -> x.filterCols(of[0], column, -1, column), BAD_COLUMN);
                refused("columnB " + column + ", no cmp", x -> x.filterCols(of[0], 0, 6, column), BAD_COLUMN);
            }
            int last = of[1] - 1;
            due.answer("the last and the first column", Scenes.usual().filterCols(of[0], last, 0, 0), 6);
            due.answer("the first and the last column", Scenes.usual().filterCols(of[0], 0, 0, last), 6);
            due.answer("the last column twice", Scenes.usual().filterCols(of[0], last, 0, last), 6);
        }
    }

    private static void filterColsOfNoComparison() {
        due.sentence("Promise 9", "cmp not in 0 to 5: BAD_KIND");
        for (int cmp : Scenes.outside(0, 5)) {
            refused("cmp " + cmp, x -> x.filterCols(0, 1, cmp, 0), BAD_KIND);
        }
        for (int cmp = 0; cmp <= 5; cmp++) {
            due.answer("cmp " + cmp, Scenes.usual().filterCols(0, 1, cmp, 0), 6);
        }
    }

    private static void mapOfNoOperation() {
        due.sentence("Promise 10", "op not in 0 to 4: BAD_KIND");
        for (int op : Scenes.outside(0, 4)) {
            refused("op " + op, x -> x.map(0, op, 0, 0), BAD_KIND);
            refused("op " + op + ", no column", x -> x.map(0, op, 2, -1), BAD_KIND);
            refused("op " + op + ", 6 wide", x -> x.map(5, op, 0, 0), BAD_KIND);
        }
        for (int op = 0; op <= 4; op++) {
            due.answer("op " + op, Scenes.usual().map(0, op, 0, 0), 6);
        }
    }

    private static void mapOfNoColumn() {
        due.sentence("Promise 10", "columnA or columnB not a column of the child: BAD_COLUMN");
        for (int[] of : CHILD_AND_WIDTH) {
            for (int column : Scenes.outside(0, of[1] - 1)) {
                refused("columnA " + column, x -> x.map(of[0], 0, column, 0), BAD_COLUMN);
                refused("columnB " + column, x -> x.map(of[0], 0, 0, column), BAD_COLUMN);
                refused("both " + column, x -> x.map(of[0], 0, column, column), BAD_COLUMN);
            }
        }
        due.answer("the last columns", Scenes.usual().map(0, 0, 1, 1), 6);
    }

    private static void mapOfAWideChild() {
        due.sentence("Promise 10", "the child's width is 6: TOO_WIDE");
        for (int op = 0; op <= 4; op++) {
            int operation = op;
            refused("op " + op, x -> x.map(5, operation, 0, 5), TOO_WIDE);
        }
        QueryPushCompiler x = new QueryPushCompiler(1);
        x.defineTable(0, 1);
        x.scan(0);
        for (int width = 1; width < 6; width++) {
            due.answer("width", x.width(width - 1), width);
            due.answer("a child " + width + " wide", x.map(width - 1, 0, width - 1, 0), width);
        }
        due.answer("a child of maps", x.map(5, 0, 0, 0), TOO_WIDE);
        due.answer("it is free still", x.limit(5, 1), 6);
    }

    private static void projectOfNoWidth() {
        due.sentence("Promise 11", "n not in 1 to 6: BAD_WIDTH");
        for (int n : Scenes.outside(1, 6)) {
            refused("n " + n, x -> x.project(0, 0, n), BAD_WIDTH);
            refused("n " + n + ", no column", x -> x.project(0, -1, n), BAD_WIDTH);
        }
        for (int n = 1; n <= 6; n++) {
            QueryPushCompiler x = Scenes.usual();
            due.answer("n " + n, x.project(0, 0, n), 6);
            due.answer("its width", x.width(6), n);
        }
    }

    private static void projectOfNoColumn() {
        due.sentence("Promise 11", "any chosen one of the n is not a column of the child: BAD_COLUMN");
        for (int[] of : CHILD_AND_WIDTH) {
            for (int i = 0; i < 6; i++) {
                int place = i;
                for (int none : new int[] {of[1], 7}) {
                    refused("place " + i, x -> x.project(of[0], none << 3 * place, place + 1), BAD_COLUMN);
                    refused("place " + i + " of 6", x -> x.project(of[0], none << 3 * place, 6), BAD_COLUMN);
                    if (i > 0) {
                        due.answer("behind the last of the n", Scenes.usual().project(of[0], none << 3 * i, i), 6);
                    }
                }
                due.answer("the last column", Scenes.usual().project(of[0], of[1] - 1 << 3 * i, 6), 6);
            }
        }
        refused("all ones", x -> x.project(5, -1, 1), BAD_COLUMN);
        due.answer("ones behind the sixth", Scenes.usual().project(0, -1 << 18, 6), 6);
        due.answer("the sign behind the sixth", Scenes.usual().project(0, LOW, 6), 6);
    }

    /** Each column of the row (0, 1, 2, 3, 4, 5) is chosen at each of the six places, column 0 at the others. */
    private static void projectReadsThreeBitsEach() {
        due.sentence("Promise 11", "The i-th chosen column, i from 0 to n - 1, is (columns >> (3 * i)) & 7");
        for (int place = 0; place < 6; place++) {
            for (int column = 0; column < 6; column++) {
                QueryPushCompiler x = Scenes.with(3, Due.row(0, 1, 2));
                x.map(0, QueryPushCompiler.ADD, 1, 2);
                x.map(1, QueryPushCompiler.ADD, 1, 3);
                x.map(2, QueryPushCompiler.ADD, 2, 3);
                int[] want = new int[6];
                want[place] = column;
                due.answer("project", x.project(3, LOW | column << 3 * place, 6), 4);
                due.list("column " + column + " at place " + place, x, 4, 6, want);
            }
        }
    }

    private static void projectChoosesMoreThanOnce() {
        due.sentence("Promise 11", "a column may be chosen more than once");
        QueryPushCompiler x = Scenes.usual();
        due.answer("six times the last of three", x.project(1, 0_222222, 6), 6);
        due.list("six times the last of three", x, 6, 6, Due.row(3, 3, 3, 3, 3, 3), Due.row(6, 6, 6, 6, 6, 6));
        due.answer("the first in between", x.project(6, 0, 2), 7);
        due.list("twice the first", x, 7, 2, Due.row(3, 3), Due.row(6, 6));
    }

    private static void joinLooksAtSixBits() {
        due.sentence("Promise 12",
                "The left key column is keys & 7, the right one (keys >> 3) & 7; other bits are not looked at.");
        for (int high : new int[] {0, 1 << 6, 7 << 6, ~077, LOW}) {
            QueryPushCompiler x = Scenes.usual();
            x.setCell(1, 1, 2, 7);
            due.answer("semi with high bits " + high, x.join(0, 1, high | 2 << 3 | 1, SEMI), 6);
            due.list("semi with high bits " + high, x, 6, 2, Due.row(-6, 7));
            x.scan(1);
            due.answer("inner with high bits " + high, x.join(3, 7, high | 2 << 3 | 1, INNER), 8);
            due.list("inner with high bits " + high, x, 8, 5, Due.row(-6, 7, 4, 5, 7));
        }
    }

    private static void joinOfNoKind() {
        due.sentence("Promise 12", "kind not in 0 to 3: BAD_KIND");
        for (int kind : Scenes.outside(0, 3)) {
            refused("kind " + kind, x -> x.join(0, 1, 0, kind), BAD_KIND);
            refused("kind " + kind + ", no key", x -> x.join(0, 1, 077, kind), BAD_KIND);
            refused("kind " + kind + ", too wide", x -> x.join(0, 5, 0, kind), BAD_KIND);
        }
        for (int kind = 0; kind <= 3; kind++) {
            due.answer("kind " + kind, Scenes.usual().join(0, 1, 0, kind), 6);
        }
    }

    private static void joinOfNoColumn() {
        due.sentence("Promise 12", "a key column that its child doesn't have: BAD_COLUMN");
        for (int k = 0; k <= 3; k++) {
            int kind = k;
            for (int none : new int[] {2, 3, 6, 7}) {
                refused("left key " + none, x -> x.join(0, 1, none, kind), BAD_COLUMN);
                refused("right key " + none, x -> x.join(1, 0, none << 3, kind), BAD_COLUMN);
                refused("left key " + none + ", 2 + 6", x -> x.join(0, 5, none, kind), BAD_COLUMN);
            }
            for (int none : new int[] {6, 7}) {
                refused("left key " + none + " of 6", x -> x.join(5, 0, none, kind), BAD_COLUMN);
                refused("right key " + none + " of 6", x -> x.join(0, 5, none << 3, kind), BAD_COLUMN);
            }
            refused("a right key that the left has", x -> x.join(1, 0, 2 << 3, kind), BAD_COLUMN);
            refused("a left key that the right has", x -> x.join(0, 1, 2, kind), BAD_COLUMN);
            due.answer("the last keys", Scenes.usual().join(0, 1, 2 << 3 | 1, kind), 6);
        }
    }

    private static void joinTooWide() {
        due.sentence("Promise 12", "kind INNER or OUTER and the sum of the widths is above 6: TOO_WIDE");
        for (int left = 1; left <= 6; left++) {
            for (int right = 1; right <= 6; right++) {
                for (int kind = 0; kind <= 3; kind++) {
                    joinOfWidths(left, right, kind);
                }
            }
        }
        refused("2 + 6 inner", x -> x.join(3, 5, 0, INNER), TOO_WIDE);
        refused("6 + 2 outer", x -> x.join(5, 3, 0, OUTER), TOO_WIDE);
    }

    private static void joinOfWidths(int left, int right, int kind) {
        QueryPushCompiler x = new QueryPushCompiler(1);
        x.project(x.scan(0), 0, left);
        x.project(x.scan(0), 0, right);
        String of = left + " + " + right + " kind " + kind;
        boolean both = kind == INNER || kind == OUTER;
        if (both && left + right > 6) {
            due.answer(of, x.join(1, 3, 0, kind), TOO_WIDE);
        } else {
            due.answer(of, x.join(1, 3, 0, kind), 4);
            due.answer("width of " + of, x.width(4), both ? left + right : left);
        }
    }

    private static void unionOfTwoWidths() {
        due.sentence("Promise 13", "widths differ: BAD_WIDTH");
        for (int left = 1; left <= 6; left++) {
            for (int right = 1; right <= 6; right++) {
                QueryPushCompiler x = new QueryPushCompiler(1);
                x.project(x.scan(0), 0, left);
                x.project(x.scan(0), 0, right);
                due.answer("union of " + left + " and " + right, x.union(1, 3), left == right ? 4 : BAD_WIDTH);
                due.answer("width of it", x.width(4), left == right ? left : BAD_NODE);
            }
        }
        refused("2 and 3", x -> x.union(0, 1), BAD_WIDTH);
        refused("6 and 2", x -> x.union(5, 3), BAD_WIDTH);
    }

    private static void groupOfNoColumn() {
        due.sentence("Promise 14", "keyColumn or valueColumn (for COUNT too) not a column of the child: BAD_COLUMN");
        for (int[] of : CHILD_AND_WIDTH) {
            for (int column : Scenes.outside(0, of[1] - 1)) {
                for (int a = COUNT; a <= 3; a++) {
                    int aggregate = a;
                    refused("key " + column, x -> x.group(of[0], column, aggregate, 0), BAD_COLUMN);
                    refused("value " + column, x -> x.group(of[0], 0, aggregate, column), BAD_COLUMN);
                }
                refused("key " + column + ", no aggregate", x -> x.group(of[0], column, 4, 0), BAD_COLUMN);
                refused("value " + column + ", no aggregate", x -> x.group(of[0], 0, -1, column), BAD_COLUMN);
            }
            int last = of[1] - 1;
            due.answer("the last key", Scenes.usual().group(of[0], last, COUNT, 0), 6);
            due.answer("the last value", Scenes.usual().group(of[0], 0, COUNT, last), 6);
        }
    }

    private static void groupOfNoAggregate() {
        due.sentence("Promise 14", "aggregate not in 0 to 3: BAD_KIND");
        for (int aggregate : Scenes.outside(0, 3)) {
            refused("aggregate " + aggregate, x -> x.group(0, 1, aggregate, 1), BAD_KIND);
        }
        for (int aggregate = 0; aggregate <= 3; aggregate++) {
            due.answer("aggregate " + aggregate, Scenes.usual().group(0, 1, aggregate, 1), 6);
        }
    }

    private static void limitBelowZero() {
        due.sentence("Promise 16", "n below 0 counts as 0.");
        for (int n : new int[] {0, -1, -2, -24, -1000, LOW + 1, LOW}) {
            QueryPushCompiler x = Scenes.usual();
            due.answer("limit(0, " + n + ")", x.limit(0, n), 6);
            due.list("limit(0, " + n + ")", x, 6, 2);
            x.scan(0);
            due.answer("a union with " + n, x.union(6, 7), 8);
            due.list("a union with " + n, x, 8, 2, Due.row(4, 5), Due.row(4, 5), Due.row(-6, 7));
        }
    }

    private static void sortOfNoColumn() {
        due.sentence("Promise 17", "no such column in the child: BAD_COLUMN");
        for (int[] of : CHILD_AND_WIDTH) {
            for (int column : Scenes.outside(0, of[1] - 1)) {
                refused("column " + column, x -> x.sort(of[0], column, false), BAD_COLUMN);
                refused("column " + column + " down", x -> x.sort(of[0], column, true), BAD_COLUMN);
            }
            due.answer("the first column", Scenes.usual().sort(of[0], 0, false), 6);
            due.answer("the last column", Scenes.usual().sort(of[0], of[1] - 1, true), 6);
        }
    }

    /** Node 1 is so wide and free. */
    private static QueryPushCompiler wide(int width) {
        QueryPushCompiler x = scans(1);
        x.project(0, 0, width);
        return x;
    }

    private static void widthAsTheChilds() {
        due.sentence("Terms", "width as S.");
        for (Maker maker : MAKERS) {
            // A map, a project and a group have widths of their own.
            if (maker.promise() == 10 || maker.promise() == 11 || maker.promise() == 14) {
                continue;
            }
            for (int width = 1; width <= 6; width++) {
                QueryPushCompiler x = wide(width);
                due.answer(maker.name(), maker.good().on(x, 1), 2);
                due.answer("width of " + maker.name(), x.width(2), width);
                due.list("an empty list", x, 2, width);
            }
        }
    }

    private static void widthOfAMap() {
        due.sentence("Terms", "width: S's and 1.");
        for (int width = 1; width <= 5; width++) {
            QueryPushCompiler x = wide(width);
            due.answer("map", x.map(1, 0, 0, 0), 2);
            due.answer("width of a map", x.width(2), width + 1);
            due.list("an empty list", x, 2, width + 1);
        }
    }

    private static void widthOfAGroup() {
        due.sentence("Terms", "Width 2.");
        for (int width = 1; width <= 6; width++) {
            QueryPushCompiler x = wide(width);
            due.answer("group", x.group(1, width - 1, COUNT, 0), 2);
            due.answer("width of a group", x.width(2), 2);
            due.list("an empty list", x, 2, 2);
        }
    }

    private static void widthOfEveryNode() {
        due.sentence("Promise 22", "The node's width");
        QueryPushCompiler x = new QueryPushCompiler(1);
        for (int width = 1; width <= 6; width++) {
            int child = x.scan(0);
            int node = x.project(child, 0, width);
            due.answer("a child", x.width(child), 2);
            due.answer("a project of " + width, x.width(node), width);
        }
        x.run(11);
        due.answer("after a run", x.width(0), 2);
        x.addRow(0, 1, 1, 1);
        due.answer("after a row", x.width(11), 6);
    }

    private static void widthOfNoNode() {
        due.sentence("Promise 22", "BAD_NODE if there is none.");
        for (int node : Scenes.outside(0, 5)) {
            refused("width(" + node + ")", x -> x.width(node), BAD_NODE);
        }
        for (int node : Scenes.outside(0, 11)) {
            unchanged(Scenes::fullPlan, "width(" + node + ")", x -> x.width(node), BAD_NODE);
        }
        due.answer("in an empty plan", scans(0).width(0), BAD_NODE);
    }
}
