import java.util.List;
import java.util.function.Supplier;
import java.util.function.ToIntFunction;

/** The sentences on the bound of a node, and of promises 18 to 21, that name an edge, each with a test of its own. */
public final class RunEdgeTest {
    private static final int LOW = Scenes.LOW;
    private static final int HIGH = Scenes.HIGH;
    private static final int BAD_NODE = QueryPushCompiler.BAD_NODE;
    private static final int TOO_BIG = QueryPushCompiler.TOO_BIG;
    private static final int INNER = QueryPushCompiler.INNER;
    private static final int SEMI = QueryPushCompiler.SEMI;
    private static final int ANTI = QueryPushCompiler.ANTI;
    private static final int OUTER = QueryPushCompiler.OUTER;
    private static final Due due = new Due();

    public static void main(String[] args) {
        theBoundIsTestedBeforeTheRun();
        boundOfAScan();
        boundOfAnInnerJoin();
        boundOfAnOuterJoin();
        boundOfSemiAndAnti();
        boundOfAUnion();
        boundOfALimit();
        boundOfAllOthers();
        twentyFourAndTwentyFive();
        aTooBigChildOfOne();
        aTooBigChildOfAPair();
        runOfNoNode();
        runOfATooBigNode();
        runRefusedChangesNothing();
        runAnswersHowManyRows();
        runOfAChild();
        theResultStays();
        theNextGoodRunReplacesTheResult();
        resultRowsFromNoneToTwentyFour();
        readingChangesNothing();
        resultWidthBeforeTheFirstRun();
        resultWidthOfAnEmptyList();
        cellOutsideTheResult();
        cellOfAResultThatWasLarger();
        due.end();
    }

    private static void unchanged(Supplier<QueryPushCompiler> scene, String name, ToIntFunction<QueryPushCompiler> call,
            int want) {
        new Twins(due, scene).unchangedBy(name, call, want);
    }

    private static final int LEFT = 3;
    private static final int RIGHT = 7;

    /**
     * Nodes 3 and 7 (LEFT and RIGHT) have so many rows, up to 24, all (0, 0), and a bound of as many; there is no node
     * 8. Table 3 is empty and 2 wide.
     */
    private static QueryPushCompiler pair(int left, int right) {
        QueryPushCompiler x = new QueryPushCompiler(4);
        x.defineTable(0, 1);
        x.defineTable(1, 1);
        for (int row = 0; row < 4; row++) {
            x.addRow(0, 0, 0, 0);
        }
        for (int row = 0; row < 6; row++) {
            x.addRow(1, 0, 0, 0);
        }
        x.limit(x.join(x.scan(0), x.scan(1), 0, INNER), left);
        x.limit(x.join(x.scan(0), x.scan(1), 0, INNER), right);
        return x;
    }

    /** The bound, 15 to 24, shows in a union with a scan: it goes up to 24 rows, and not to 25. */
    private static void hasBound(String what, QueryPushCompiler x, int node, int bound) {
        int twoWide = x.width(node) == 2 ? node : x.project(node, 0, 2);
        int union = x.union(twoWide, x.scan(3));
        due.isTrue(what + ": there is place for the union", union > 0);
        for (int row = bound; row < 24; row++) {
            x.addRow(3, 0, 0, 0);
        }
        due.isTrue(what + ": bound " + bound + " and " + (24 - bound), x.run(union) >= 0);
        x.addRow(3, 0, 0, 0);
        due.answer(what + ": bound " + bound + " and " + (25 - bound), x.run(union), TOO_BIG);
    }

    private static int fits(int rows) {
        return rows > 24 ? TOO_BIG : rows;
    }

    private static void theBoundIsTestedBeforeTheRun() {
        due.sentence("Terms", "THE BOUND of a node, tested before a run");
        QueryPushCompiler x = Scenes.sized(5, 5);
        due.answer("a node that is TOO_BIG can be made", x.join(0, 1, 0, INNER), 2);
        due.answer("and be a child", x.limit(2, 1), 3);
        due.answer("its run", x.run(2), TOO_BIG);
        x.dropRow(0, 0);
        due.answer("its run when a row is gone", x.run(2), 20);
        due.answer("its parent's run", x.run(3), 1);
        x.addRow(0, 0, 0, 0);
        due.answer("its run when there is one more", x.run(2), TOO_BIG);
    }

    private static void boundOfAScan() {
        due.sentence("Terms", "scan: how many rows the table has now");
        QueryPushCompiler x = pair(20, 0);
        int union = x.union(LEFT, x.scan(3));
        for (int rows = 0; rows <= 10; rows++) {
            due.answer("20 and " + rows, x.run(union), fits(20 + rows));
            x.addRow(3, 1, 1, 1);
        }
        for (int rows = 9; rows >= 0; rows--) {
            x.dropRow(3, 0);
            due.answer("20 and " + rows, x.run(union), fits(20 + rows));
        }
    }

    private static int runOfPair(int left, int right, int kind) {
        QueryPushCompiler x = pair(left, right);
        return x.run(x.join(LEFT, RIGHT, 0, kind));
    }

    private static void boundOfAnInnerJoin() {
        due.sentence("Terms", "join INNER: product of both children's bounds");
        for (int left = 0; left <= 24; left++) {
            for (int right = 0; right <= 24; right++) {
                due.answer(left + " times " + right, runOfPair(left, right, INNER), fits(left * right));
            }
        }
        QueryPushCompiler x = pair(9, 2);
        hasBound("9 times 2", x, x.join(LEFT, RIGHT, 0, INNER), 18);
    }

    private static void boundOfAnOuterJoin() {
        due.sentence("Terms", "join OUTER: left bound times the right bound, or times 1 if the right bound is 0");
        for (int left = 0; left <= 24; left++) {
            for (int right = 0; right <= 24; right++) {
                int rows = right == 0 ? left : left * right;
                due.answer(left + " times " + right, runOfPair(left, right, OUTER), fits(rows));
            }
        }
        QueryPushCompiler x = pair(9, 2);
        hasBound("9 times 2", x, x.join(LEFT, RIGHT, 0, OUTER), 18);
        QueryPushCompiler y = pair(19, 0);
        hasBound("19 times 1", y, y.join(LEFT, RIGHT, 0, OUTER), 19);
        QueryPushCompiler z = Scenes.sized(5, 5);
        int join = z.join(0, z.filter(1, 0, 1, 0), 0, OUTER);
        due.answer("5 times 5, though the right list is empty", z.run(join), TOO_BIG);
        z.dropRow(1, 0);
        due.answer("5 times 4", z.run(join), 5);
    }

    private static void boundOfSemiAndAnti() {
        due.sentence("Terms", "SEMI, ANTI: left bound");
        for (int left = 0; left <= 24; left++) {
            for (int right : new int[] {0, 1, 2, 24}) {
                due.answer(left + " semi " + right, runOfPair(left, right, SEMI), right == 0 ? 0 : left);
                due.answer(left + " anti " + right, runOfPair(left, right, ANTI), right == 0 ? left : 0);
            }
        }
        for (int right : new int[] {0, 1, 24}) {
            QueryPushCompiler x = pair(20, right);
            hasBound("20 semi " + right, x, x.join(LEFT, RIGHT, 0, SEMI), 20);
            QueryPushCompiler y = pair(20, right);
            hasBound("20 anti " + right, y, y.join(LEFT, RIGHT, 0, ANTI), 20);
        }
    }

    private static void boundOfAUnion() {
        due.sentence("Terms", "union: the sum");
        for (int left = 0; left <= 24; left++) {
            for (int right = 0; right <= 24; right++) {
                QueryPushCompiler x = pair(left, right);
                due.answer(left + " and " + right, x.run(x.union(LEFT, RIGHT)), fits(left + right));
            }
        }
        QueryPushCompiler x = pair(9, 8);
        hasBound("9 and 8", x, x.union(LEFT, RIGHT), 17);
    }

    private static void boundOfALimit() {
        due.sentence("Terms", "limit: the smaller of n and the child's bound");
        int[] asked = {15, 19, 20, 21, 24, 25, HIGH};
        int[] bound = {15, 19, 20, 20, 20, 20, 20};
        for (int i = 0; i < asked.length; i++) {
            QueryPushCompiler x = pair(20, 0);
            hasBound("limit " + asked[i] + " of 20", x, x.limit(LEFT, asked[i]), bound[i]);
        }
        QueryPushCompiler none = pair(20, 0);
        due.answer("an empty list", none.filter(LEFT, 0, 1, 0), 8);
        hasBound("limit 18 of an empty list whose bound is 20", none, none.limit(8, 18), 18);
        for (int n : new int[] {0, -1, LOW}) {
            QueryPushCompiler x = pair(24, 24);
            x.limit(RIGHT, n);
            due.answer("24 times limit " + n, x.run(x.join(LEFT, 8, 0, INNER)), 0);
            QueryPushCompiler y = pair(24, 24);
            y.limit(RIGHT, n);
            due.answer("24 and limit " + n, y.run(y.union(8, LEFT)), 24);
        }
    }

    private static int oneChild(QueryPushCompiler x, int kind, int child) {
        switch (kind) {
            case 0: return x.filter(child, 0, 1, 0);
            case 1: return x.filterCols(child, 0, 1, 0);
            case 2: return x.map(child, 0, 0, 0);
            case 3: return x.project(child, 0, 2);
            case 4: return x.group(child, 0, 0, 0);
            case 5: return x.distinct(child);
            case 6: return x.sort(child, 0, false);
            case 7: return x.limit(child, HIGH);
            case 8: return x.limit(child, 0);
            default: return x.limit(child, LOW);
        }
    }

    private static void boundOfAllOthers() {
        due.sentence("Terms", "all others: the child's bound");
        int[] lengths = {0, 0, 20, 20, 1, 1, 20};
        for (int kind = 0; kind < lengths.length; kind++) {
            QueryPushCompiler x = pair(20, 0);
            int node = oneChild(x, kind, LEFT);
            due.answer("the list of kind " + kind, x.run(node), lengths[kind]);
            hasBound("kind " + kind, x, node, 20);
        }
    }

    /** The length of the list doesn't matter: the keys here don't match. */
    private static void twentyFourAndTwentyFive() {
        due.sentence("Terms", "A bound above 24 makes the node TOO_BIG");
        int[][] sizes = {{4, 6}, {3, 8}, {8, 3}, {6, 4}, {5, 5}, {10, 10}};
        for (int[] size : sizes) {
            boolean small = size[0] * size[1] <= 24;
            QueryPushCompiler x = new QueryPushCompiler(2);
            for (int row = 0; row < 10; row++) {
                if (row < size[0]) {
                    x.addRow(0, 1, 0, 0);
                }
                if (row < size[1]) {
                    x.addRow(1, 2, 0, 0);
                }
            }
            x.join(x.scan(0), x.scan(1), 0, INNER);
            x.join(x.scan(0), x.scan(1), 0, OUTER);
            due.answer("inner without a match", x.run(2), small ? 0 : TOO_BIG);
            due.answer("outer without a match", x.run(5), small ? size[0] : TOO_BIG);
        }
        for (int right = 12; right <= 13; right++) {
            QueryPushCompiler x = pair(12, right);
            x.union(x.filter(LEFT, 0, 1, 0), x.filter(RIGHT, 0, 1, 0));
            due.answer("a union of empty lists whose bounds are 12 and " + right, x.run(10), right == 12 ? 0 : TOO_BIG);
        }
    }

    /** Node 2 is TOO_BIG; node 3 is as wide, 2, and the scan of an empty table. */
    private static QueryPushCompiler tooBig() {
        QueryPushCompiler x = new QueryPushCompiler(2);
        x.defineTable(0, 1);
        for (int row = 0; row < 5; row++) {
            x.addRow(0, row, 0, 0);
        }
        x.join(x.scan(0), x.scan(0), 0, INNER);
        x.scan(1);
        return x;
    }

    private static void aTooBigChildOfOne() {
        due.sentence("Terms", "a node with a TOO_BIG child is itself TOO_BIG whatever its kind");
        for (int kind = 0; kind <= 9; kind++) {
            QueryPushCompiler x = tooBig();
            int node = oneChild(x, kind, 2);
            due.answer("kind " + kind, x.run(node), TOO_BIG);
            int above = x.limit(node, 0);
            due.answer("limit 0 above kind " + kind, x.run(above), TOO_BIG);
            due.answer("semi above kind " + kind, x.run(x.join(x.scan(1), above, 0, SEMI)), TOO_BIG);
            due.answer("a node beside them", x.run(3), 0);
        }
    }

    private static void aTooBigChildOfAPair() {
        due.sentence("Terms", "a node with a TOO_BIG child is itself TOO_BIG");
        for (int kind = 0; kind <= 3; kind++) {
            QueryPushCompiler left = tooBig();
            due.answer("left of an empty list, kind " + kind, left.run(left.join(2, 3, 0, kind)), TOO_BIG);
            QueryPushCompiler right = tooBig();
            due.answer("right of an empty list, kind " + kind, right.run(right.join(3, 2, 0, kind)), TOO_BIG);
            QueryPushCompiler both = tooBig();
            int other = both.join(both.scan(0), both.scan(0), 0, OUTER);
            due.answer("both sides, kind " + kind, both.run(both.join(2, other, 0, kind)), TOO_BIG);
        }
        QueryPushCompiler left = tooBig();
        due.answer("left of a union", left.run(left.union(2, 3)), TOO_BIG);
        QueryPushCompiler right = tooBig();
        due.answer("right of a union", right.run(right.union(3, 2)), TOO_BIG);
        QueryPushCompiler both = tooBig();
        int other = both.join(both.scan(0), both.scan(0), 0, OUTER);
        due.answer("both sides of a union", both.run(both.union(2, other)), TOO_BIG);
    }

    private static void runOfNoNode() {
        due.sentence("Promise 18", "No such node: BAD_NODE");
        for (int node : Scenes.outside(0, 5)) {
            unchanged(Scenes::usual, "run(" + node + ")", x -> x.run(node), BAD_NODE);
        }
        for (int node : Scenes.outside(0, 11)) {
            unchanged(Scenes::fullPlan, "run(" + node + ")", x -> x.run(node), BAD_NODE);
        }
        due.answer("in an empty plan", new QueryPushCompiler(1).run(0), BAD_NODE);
        QueryPushCompiler x = Scenes.fullPlan();
        due.answer("the last of a full plan", x.run(11), 10);
        x.clearPlan();
        due.answer("the first of a cleared plan", x.run(0), BAD_NODE);
        due.answer("the last of a cleared plan", x.run(11), BAD_NODE);
    }

    /** The usual scene with a node 8 that is TOO_BIG, and its child 7, which is not. */
    private static QueryPushCompiler usualAndTooBig() {
        QueryPushCompiler x = Scenes.usual();
        x.join(x.scan(2), x.scan(0), 0, INNER);
        return x;
    }

    private static void runOfATooBigNode() {
        due.sentence("Promise 18", "the node is TOO_BIG: TOO_BIG");
        QueryPushCompiler x = usualAndTooBig();
        due.answer("10 times 3", x.run(8), TOO_BIG);
        due.answer("once more", x.run(8), TOO_BIG);
        due.answer("its child", x.run(7), 3);
        x.dropRow(0, 0);
        due.answer("10 times 2", x.run(8), 0);
    }

    private static void runRefusedChangesNothing() {
        due.sentence("Promise 18", "refused calls change nothing (the old result stays)");
        unchanged(RunEdgeTest::usualAndTooBig, "run(8)", x -> x.run(8), TOO_BIG);
        unchanged(RunEdgeTest::usualAndTooBig, "run(9)", x -> x.run(9), BAD_NODE);
        unchanged(RunEdgeTest::usualAndTooBig, "run(-1)", x -> x.run(-1), BAD_NODE);
        unchanged(RunEdgeTest::tooBig, "a first run", x -> x.run(2), TOO_BIG);
    }

    private static void runAnswersHowManyRows() {
        due.sentence("Promise 18", "the call answers how many rows it has");
        for (int rows = 0; rows <= 24; rows++) {
            QueryPushCompiler x = pair(rows, 0);
            due.answer("a list of " + rows, x.run(LEFT), rows);
            due.answer("its resultRows", x.resultRows(), rows);
        }
    }

    private static void runOfAChild() {
        due.sentence("Promise 18", "Any node may be run, also one that is a child.");
        QueryPushCompiler x = Scenes.usual();
        due.list("a child", x, 2, 2, Due.row(4, 5), Due.row(4, 5), Due.row(-6, 7));
        due.list("another child", x, 4, 3, Due.row(1, 2, 3), Due.row(4, 5, 6));
        due.answer("it is a child still", x.limit(4, 1), QueryPushCompiler.CHILD_USED);
        due.list("a parent", x, 3, 2, Due.row(4, 5), Due.row(-6, 7));
        due.answer("it is free still", x.limit(3, 1), 6);
        due.list("it is a child now", x, 3, 2, Due.row(4, 5), Due.row(-6, 7));
    }

    private static void theResultStays() {
        due.sentence("Promise 18", "The result stays as it is, whatever happens to tables and plan");
        QueryPushCompiler object = usualAndTooBig();
        List<ToIntFunction<QueryPushCompiler>> calls = List.of(x -> x.setCell(0, 0, 0, 99), x -> x.dropRow(0, 2),
                x -> x.addRow(0, 1, 1, 1), x -> x.run(8), x -> x.run(9), x -> x.run(-1), x -> x.map(0, 0, 0, 0),
                x -> x.scan(2), x -> x.union(3, 3), x -> x.defineTable(0, 3), x -> cleared(x), x -> x.run(3),
                x -> x.defineTable(0, 3), x -> x.scan(0));
        for (int i = 0; i < calls.size(); i++) {
            calls.get(i).applyAsInt(object);
            due.result("after call " + i, object, 2, Due.row(4, 5), Due.row(-6, 7));
        }
    }

    private static void theNextGoodRunReplacesTheResult() {
        due.sentence("Promise 18", "until the next run that isn't refused.");
        QueryPushCompiler x = usualAndTooBig();
        due.answer("a refused run", x.run(8), TOO_BIG);
        due.answer("a refused run", x.run(9), BAD_NODE);
        due.result("the old result", x, 2, Due.row(4, 5), Due.row(-6, 7));
        due.list("a good run", x, 1, 3, Due.row(1, 2, 3), Due.row(4, 5, 6));
        due.list("a good run without rows", x, x.limit(1, 0), 3);
        due.answer("a cell of the old result", x.cell(0, 0), 0);
        due.list("a good run again", x, 3, 2, Due.row(4, 5), Due.row(-6, 7));
    }

    private static int cleared(QueryPushCompiler x) {
        x.clearPlan();
        return 0;
    }

    private static void resultRowsFromNoneToTwentyFour() {
        due.sentence("Promise 19", "How many rows the result has.");
        QueryPushCompiler x = pair(24, 0);
        due.answer("before a run", x.resultRows(), 0);
        x.run(LEFT);
        due.answer("24", x.resultRows(), 24);
        x.run(12);
        due.answer("after a refused run", x.resultRows(), 24);
        x.run(RIGHT);
        due.answer("none", x.resultRows(), 0);
    }

    private static void readingChangesNothing() {
        due.sentence("Promise 19", "Changes nothing (nor do the calls below).");
        unchanged(Scenes::usual, "resultRows()", x -> x.resultRows(), 2);
        unchanged(Scenes::usual, "resultWidth()", x -> x.resultWidth(), 2);
        unchanged(Scenes::usual, "cell(1, 0)", x -> x.cell(1, 0), -6);
        unchanged(Scenes::usual, "cell(2, 0)", x -> x.cell(2, 0), 0);
        unchanged(Scenes::usual, "cell(-1, 2)", x -> x.cell(-1, 2), 0);
        unchanged(Scenes::usual, "width(2), of a child", x -> x.width(2), 2);
        unchanged(Scenes::usual, "width(5)", x -> x.width(5), 6);
        unchanged(Scenes::usual, "width(6)", x -> x.width(6), BAD_NODE);
        unchanged(Scenes::usual, "tableRows(2)", x -> x.tableRows(2), 10);
        unchanged(Scenes::usual, "tableRows(3)", x -> x.tableRows(3), QueryPushCompiler.BAD_TABLE);
    }

    private static void resultWidthBeforeTheFirstRun() {
        due.sentence("Promise 20", "0 before the first run that isn't refused");
        QueryPushCompiler x = tooBig();
        due.answer("before a run", x.resultWidth(), 0);
        x.run(9);
        due.answer("after a run of no node", x.resultWidth(), 0);
        x.run(2);
        due.answer("after a run that is TOO_BIG", x.resultWidth(), 0);
        x.run(3);
        due.answer("after a run without rows", x.resultWidth(), 2);
    }

    private static void resultWidthOfAnEmptyList() {
        due.sentence("Promise 20", "The width of the node whose list the result is");
        for (int width = 1; width <= 6; width++) {
            QueryPushCompiler x = Scenes.with(2);
            x.project(0, 0, width);
            due.answer("run", x.run(1), 0);
            due.answer("of an empty list", x.resultWidth(), width);
            x.addRow(0, 1, 1, 1);
            due.answer("run", x.run(1), 1);
            due.answer("of a row", x.resultWidth(), width);
            x.clearPlan();
            due.answer("of a node that is gone", x.resultWidth(), width);
        }
    }

    /** Node 4 has 24 rows of 6, all of them -1. */
    private static QueryPushCompiler greatestResult() {
        QueryPushCompiler x = new QueryPushCompiler(2);
        for (int row = 0; row < 6; row++) {
            x.addRow(0, -1, -1, -1);
            if (row < 4) {
                x.addRow(1, -1, -1, -1);
            }
        }
        x.join(x.scan(0), x.scan(1), 0, INNER);
        x.map(2, QueryPushCompiler.LEAST, 0, 0);
        x.map(3, QueryPushCompiler.GREATEST, 0, 0);
        due.answer("24 rows", x.run(4), 24);
        due.answer("6 columns", x.resultWidth(), 6);
        return x;
    }

    private static void cellOutsideTheResult() {
        due.sentence("Promise 21", "0 if row or column is outside the result");
        QueryPushCompiler x = greatestResult();
        for (int row : Scenes.outside(0, 23)) {
            for (int column : Scenes.outside(0, 5)) {
                due.answer("cell(" + row + ", " + column + ")", x.cell(row, column), 0);
            }
            due.answer("row " + row, x.cell(row, 0), 0);
            due.answer("row " + row, x.cell(row, 5), 0);
        }
        for (int column : Scenes.outside(0, 5)) {
            due.answer("column " + column, x.cell(0, column), 0);
            due.answer("column " + column, x.cell(1, column), 0);
            due.answer("column " + column, x.cell(23, column), 0);
        }
        due.answer("the first", x.cell(0, 0), -1);
        due.answer("the last of the first row", x.cell(0, 5), -1);
        due.answer("the first of the last row", x.cell(23, 0), -1);
        due.answer("the last", x.cell(23, 5), -1);
        due.answer("before a run", new QueryPushCompiler(1).cell(0, 0), 0);
    }

    private static void cellOfAResultThatWasLarger() {
        due.sentence("Promise 21", "A value of the result");
        QueryPushCompiler x = greatestResult();
        x.scan(0);
        x.limit(5, 1);
        x.project(6, 0, 1);
        x.setCell(0, 0, 0, 3);
        due.list("1 row of 1", x, 7, 1, Due.row(3));
        for (int i = 1; i < 6; i++) {
            due.answer("column " + i, x.cell(0, i), 0);
            due.answer("row " + i, x.cell(i, 0), 0);
        }
        due.answer("the last of the old one", x.cell(23, 5), 0);
        x.limit(7, 0);
        due.list("no rows", x, 8, 1);
        due.answer("the first of the old one", x.cell(0, 0), 0);
    }
}
