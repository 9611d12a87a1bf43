/** Promises 18 to 21 and the bound of a node: what a run answers, when it is refused, and what the result is. */
public final class RunTest {
    private static final int LOW = Integer.MIN_VALUE;
    private static final int HIGH = Integer.MAX_VALUE;
    private static final int TOO_BIG = QueryPushCompiler.TOO_BIG;
    private static final int INNER = QueryPushCompiler.INNER;
    private static final int SEMI = QueryPushCompiler.SEMI;
    private static final int ANTI = QueryPushCompiler.ANTI;
    private static final int OUTER = QueryPushCompiler.OUTER;
    private static final Due due = new Due();

    public static void main(String[] args) {
        runRefusesNoNode();
        aChildMayBeRun();
        theResultStays();
        aRefusedRunKeepsTheOldResult();
        aNewResultReplacesAllOfTheOldOne();
        cellOutsideTheResult();
        boundOfEveryJoinAndUnion();
        boundOfJoinsUnderAJoin();
        boundOfOneChildIsTheChilds();
        boundOfLimit();
        aTooBigChildMakesEveryKindTooBig();
        aTooBigNodeBesideDoesNotMatter();
        theBoundIsThatOfNow();
        aListOfTwentyFourRowsAndSixColumns();
        everyKindAsTheLastNodeOfTwentyFourRows();
        due.end();
    }

    private static void runRefusesNoNode() {
        QueryPushCompiler x = Scenes.sized(1, 2);
        due.list("run", x, 1, 2, Due.row(0, 0), Due.row(0, 1));
        for (int none : new int[] {2, -1, 11, 12, LOW, HIGH}) {
            due.answer("run of none", x.run(none), QueryPushCompiler.BAD_NODE);
        }
        due.result("the old result stays", x, 2, Due.row(0, 0), Due.row(0, 1));
    }

    private static void aChildMayBeRun() {
        QueryPushCompiler x = Scenes.sized(3, 2);
        x.limit(0, 1);
        x.union(2, 1);
        due.list("whole", x, 3, 2, Due.row(0, 0), Due.row(0, 0), Due.row(0, 1));
        due.list("child", x, 2, 2, Due.row(0, 0));
        due.list("child's child", x, 0, 2, Due.row(0, 0), Due.row(0, 1), Due.row(0, 2));
        due.list("other child", x, 1, 2, Due.row(0, 0), Due.row(0, 1));
        due.list("whole again", x, 3, 2, Due.row(0, 0), Due.row(0, 0), Due.row(0, 1));
    }

    private static void theResultStays() {
        QueryPushCompiler x = Scenes.sized(2, 0);
        int[][] want = {{0, 0}, {0, 1}};
        due.list("run", x, 0, 2, want);
        x.setCell(0, 0, 0, 99);
        due.result("after setCell", x, 2, want);
        x.addRow(0, 5, 5, 5);
        due.result("after addRow", x, 2, want);
        x.dropRow(0, 0);
        due.result("after dropRow", x, 2, want);
        x.map(0, 0, 0, 0);
        due.result("after a new node", x, 2, want);
        x.clearPlan();
        due.result("after clearPlan", x, 2, want);
        x.defineTable(0, 3);
        due.result("after defineTable", x, 2, want);
        x.scan(0);
        due.result("after another scan", x, 2, want);
        due.list("the next run", x, 0, 3);
    }

    private static void aRefusedRunKeepsTheOldResult() {
        QueryPushCompiler x = Scenes.sized(5, 5);
        x.limit(1, 1);
        due.list("run", x, 2, 2, Due.row(0, 0));
        x.scan(1);
        x.join(0, 3, 0, INNER);
        due.answer("a run that is TOO_BIG", x.run(4), TOO_BIG);
        due.result("the old result stays", x, 2, Due.row(0, 0));
        QueryPushCompiler first = Scenes.sized(5, 5);
        first.join(0, 1, 0, INNER);
        due.answer("a first run that is TOO_BIG", first.run(2), TOO_BIG);
        due.result("there is none still", first, 0);
    }

    private static void aNewResultReplacesAllOfTheOldOne() {
        QueryPushCompiler x = Scenes.sized(4, 1);
        x.map(0, QueryPushCompiler.ADD, 1, 1);
        due.list("4 rows of 3", x, 2, 3, Due.row(0, 0, 0), Due.row(0, 1, 2), Due.row(0, 2, 4), Due.row(0, 3, 6));
        due.list("1 row of 2", x, 1, 2, Due.row(0, 0));
        due.answer("no third column", x.cell(0, 2), 0);
        due.answer("no second row", x.cell(1, 1), 0);
    }

    private static void cellOutsideTheResult() {
        QueryPushCompiler x = new QueryPushCompiler(1);
        due.answer("no result", x.cell(0, 0), 0);
        for (int row = 0; row < 10; row++) {
            x.addRow(0, 7, 8, 9);
        }
        x.scan(0);
        x.run(0);
        for (int none : new int[] {-1, 2, 3, 6, LOW, HIGH}) {
            due.answer("column " + none, x.cell(0, none), 0);
            due.answer("column " + none, x.cell(9, none), 0);
        }
        for (int none : new int[] {-1, 10, 23, 24, LOW, HIGH}) {
            due.answer("row " + none, x.cell(none, 0), 0);
            due.answer("row " + none, x.cell(none, 1), 0);
            due.answer("both " + none, x.cell(none, none), 0);
        }
        due.answer("the first", x.cell(0, 0), 7);
        due.answer("the last", x.cell(9, 1), 8);
    }

    /** All keys are equal here, so an INNER join has as many rows as its bound. */
    private static void boundOfEveryJoinAndUnion() {
        for (int left = 0; left <= 10; left++) {
            for (int right = 0; right <= 10; right++) {
                String of = " of " + left + " and " + right;
                due.answer("inner" + of, join(left, right, INNER), left * right > 24 ? TOO_BIG : left * right);
                int outer = right == 0 ? left : left * right;
                due.answer("outer" + of, join(left, right, OUTER), outer > 24 ? TOO_BIG : outer);
                due.answer("semi" + of, join(left, right, SEMI), right == 0 ? 0 : left);
                due.answer("anti" + of, join(left, right, ANTI), right == 0 ? left : 0);
                QueryPushCompiler x = Scenes.sized(left, right);
                x.union(0, 1);
                due.answer("union" + of, x.run(2), left + right);
            }
        }
        QueryPushCompiler x = Scenes.sized(10, 4);
        x.scan(0);
        x.union(0, 2);
        x.union(3, 1);
        due.answer("union of 24", x.run(4), 24);
        x.addRow(1, 0, 0, 0);
        due.answer("union of 25", x.run(4), TOO_BIG);
        due.answer("but not of 20", x.run(3), 20);
    }

    private static int join(int left, int right, int kind) {
        QueryPushCompiler x = Scenes.sized(left, right);
        x.join(0, 1, 0, kind);
        return x.run(2);
    }

    /** A join whose bound shows in that of the INNER join over it and a third list. */
    private static int joinUnderJoin(int left, int right, int kind, int third) {
        QueryPushCompiler x = new QueryPushCompiler(3);
        int[] sizes = {left, right, third};
        for (int table = 0; table < 3; table++) {
            for (int row = 0; row < sizes[table]; row++) {
                x.addRow(table, 0, row, 0);
            }
            x.scan(table);
        }
        x.join(0, 1, 0, kind);
        x.join(3, 2, 0, INNER);
        return x.run(4);
    }

    private static void boundOfJoinsUnderAJoin() {
        due.answer("inner 3 * 2 * 4", joinUnderJoin(3, 2, INNER, 4), 24);
        due.answer("inner 3 * 2 * 5", joinUnderJoin(3, 2, INNER, 5), TOO_BIG);
        due.answer("outer 3 * 2 * 4", joinUnderJoin(3, 2, OUTER, 4), 24);
        due.answer("outer 3 * 2 * 5", joinUnderJoin(3, 2, OUTER, 5), TOO_BIG);
        due.answer("inner 5 * 0 * 5", joinUnderJoin(5, 0, INNER, 5), 0);
        due.answer("outer 5 * 1 * 4", joinUnderJoin(5, 0, OUTER, 4), 20);
        due.answer("outer 5 * 1 * 5", joinUnderJoin(5, 0, OUTER, 5), TOO_BIG);
        due.answer("outer 0 * 5 * 5", joinUnderJoin(0, 5, OUTER, 5), 0);
        due.answer("semi 4 * 6", joinUnderJoin(4, 10, SEMI, 6), 24);
        due.answer("semi 5 * 5", joinUnderJoin(5, 1, SEMI, 5), TOO_BIG);
        due.answer("semi of nothing, 5 * 5", joinUnderJoin(5, 0, SEMI, 5), TOO_BIG);
        due.answer("anti of nothing, 4 * 6", joinUnderJoin(4, 0, ANTI, 6), 24);
        due.answer("anti 4 * 6", joinUnderJoin(4, 10, ANTI, 6), 0);
        due.answer("anti 5 * 5", joinUnderJoin(5, 1, ANTI, 5), TOO_BIG);
    }

    /** Each of these lists is shorter than its child's, but its bound is not. */
    private static void boundOfOneChildIsTheChilds() {
        for (int kind = 0; kind < 8; kind++) {
            QueryPushCompiler x = Scenes.sized(5, 5);
            due.answer("kind " + kind, oneChild(x, kind, 0), 2);
            due.isTrue("not TOO_BIG alone", x.run(2) >= 0);
            x.join(2, 1, 0, INNER);
            due.answer("5 times 5", x.run(3), TOO_BIG);
            x.dropRow(1, 0);
            due.isTrue("5 times 4", x.run(3) >= 0);
        }
        QueryPushCompiler x = Scenes.sized(5, 5);
        x.filter(1, 0, 1, 0);
        x.join(0, 2, 0, OUTER);
        due.answer("outer of an empty list whose bound is 5", x.run(3), TOO_BIG);
        x.dropRow(1, 0);
        due.answer("outer of an empty list whose bound is 4", x.run(3), 5);
    }

    private static int oneChild(QueryPushCompiler x, int kind, int child) {
        switch (kind) {
            case 0: return x.filter(child, 0, 1, 0);
            case 1: return x.filterCols(child, 0, 4, 0);
            case 2: return x.map(child, 0, 0, 0);
            case 3: return x.project(child, 0, 1);
            case 4: return x.group(child, 0, 0, 0);
            case 5: return x.distinct(child);
            case 6: return x.sort(child, 0, true);
            default: return x.limit(child, HIGH);
        }
    }

    private static void boundOfLimit() {
        QueryPushCompiler x = Scenes.sized(10, 10);
        x.limit(0, 2);
        x.join(2, 1, 0, INNER);
        due.answer("2 times 10", x.run(3), 20);
        QueryPushCompiler three = Scenes.sized(10, 10);
        three.limit(0, 3);
        three.join(2, 1, 0, INNER);
        due.answer("3 times 10", three.run(3), TOO_BIG);
        QueryPushCompiler none = Scenes.sized(10, 10);
        none.limit(1, -5);
        none.join(0, 2, 0, OUTER);
        due.answer("10 times 1 for a limit of none", none.run(3), 10);
        none.dropRow(0, 0);
        due.answer("9 times 1", none.run(3), 9);
        QueryPushCompiler negative = Scenes.sized(10, 10);
        negative.limit(0, LOW);
        negative.scan(1);
        negative.union(1, 3);
        negative.union(2, 4);
        due.answer("a limit below 0 takes nothing off a sum", negative.run(5), 20);
        negative.scan(1);
        negative.union(5, 6);
        due.answer("0 + 20 + 10", negative.run(7), TOO_BIG);
    }

    /** Node 2 is TOO_BIG, node 3 has no rows. */
    private static QueryPushCompiler tooBig() {
        QueryPushCompiler x = Scenes.sized(5, 5);
        x.join(0, 1, 0, INNER);
        x.project(2, 0, 2);
        x.scan(0);
        x.limit(4, 0);
        due.answer("TOO_BIG", x.run(2), TOO_BIG);
        due.answer("not TOO_BIG", x.run(5), 0);
        return x;
    }

    private static void aTooBigChildMakesEveryKindTooBig() {
        for (int kind = 0; kind < 8; kind++) {
            QueryPushCompiler x = tooBig();
            due.answer("kind " + kind, oneChild(x, kind, 3), 6);
            due.answer("run of kind " + kind, x.run(6), TOO_BIG);
        }
        for (int n = 0; n < 2; n++) {
            QueryPushCompiler x = tooBig();
            x.limit(3, n);
            due.answer("limit " + n, x.run(6), TOO_BIG);
            x.distinct(6);
            due.answer("over limit " + n, x.run(7), TOO_BIG);
        }
        for (int kind = 0; kind < 4; kind++) {
            QueryPushCompiler x = tooBig();
            x.join(3, 5, 0, kind);
            due.answer("left of join " + kind, x.run(6), TOO_BIG);
            QueryPushCompiler y = tooBig();
            y.join(5, 3, 0, kind);
            due.answer("right of join " + kind, y.run(6), TOO_BIG);
        }
        QueryPushCompiler x = tooBig();
        x.union(3, 5);
        due.answer("left of union", x.run(6), TOO_BIG);
        QueryPushCompiler y = tooBig();
        y.union(5, 3);
        due.answer("right of union", y.run(6), TOO_BIG);
    }

    private static void aTooBigNodeBesideDoesNotMatter() {
        QueryPushCompiler x = tooBig();
        x.scan(1);
        x.limit(6, 1);
        due.list("beside", x, 7, 2, Due.row(0, 0));
    }

    private static void theBoundIsThatOfNow() {
        QueryPushCompiler x = Scenes.sized(4, 6);
        x.join(0, 1, 0, INNER);
        due.answer("4 times 6", x.run(2), 24);
        x.addRow(0, 1, 1, 1);
        due.answer("5 times 6", x.run(2), TOO_BIG);
        due.answer("5 times 6, once more", x.run(2), TOO_BIG);
        due.answer("the old result", x.resultRows(), 24);
        x.dropRow(1, 0);
        due.answer("5 times 5", x.run(2), TOO_BIG);
        x.dropRow(1, 0);
        due.answer("5 times 4, a key without a match", x.run(2), 16);
    }

    /** The greatest list in the last node, over others as great. */
    private static void aListOfTwentyFourRowsAndSixColumns() {
        QueryPushCompiler x = new QueryPushCompiler(2);
        x.defineTable(0, 3);
        x.defineTable(1, 3);
        for (int row = 0; row < 4; row++) {
            x.addRow(0, 1, row, 10);
        }
        for (int row = 0; row < 6; row++) {
            x.addRow(1, 1, row, 20);
        }
        x.scan(0);
        x.scan(1);
        x.join(0, 1, 0, INNER);
        x.sort(2, 4, true);
        x.filter(3, 0, 5, 1);
        x.distinct(4);
        x.limit(5, 24);
        x.filterCols(6, 2, 2, 5);
        x.project(7, 0_543210, 6);
        x.sort(8, 4, false);
        x.sort(9, 1, false);
        due.answer("the last node", x.distinct(10), 11);
        int[][] want = new int[24][];
        for (int row = 0; row < 24; row++) {
            want[row] = Due.row(1, row / 6, 10, 1, row % 6, 20);
        }
        due.list("join", x, 2, 6, want);
        due.list("all", x, 11, 6, want);
        due.answer("behind the last row", x.cell(24, 0), 0);
        due.answer("behind the last column", x.cell(23, 6), 0);
    }

    /** Every kind where the object's room ends: node 11 with 24 rows, of 6 columns where the kind allows it. */
    private static void everyKindAsTheLastNodeOfTwentyFourRows() {
        for (int kind = 0; kind < 10; kind++) {
            QueryPushCompiler x = new QueryPushCompiler(3);
            for (int row = 0; row < 10; row++) {
                x.addRow(0, row, 0, 0);
                x.addRow(1, 10 + row, 0, 0);
                if (row < 4) {
                    x.addRow(2, 20 + row, 0, 0);
                }
            }
            x.union(x.union(x.scan(0), x.scan(1)), x.scan(2));
            x.project(4, kind == 2 ? 0 : 0_100000, kind == 2 || kind == 8 ? 5 : 6);
            x.scan(2);
            x.project(6, 0, 1);
            x.limit(7, 1);
            x.distinct(8);
            x.sort(9, 0, true);
            due.answer("kind " + kind, lastNode(x, kind, 5, 10), 11);
            int width = kind == 4 ? 2 : 6;
            due.answer("run of kind " + kind, x.run(11), 24);
            due.answer("width of kind " + kind, x.resultWidth(), width);
            int first = kind == 6 ? 23 : 0;
            due.answer("first row of kind " + kind, x.cell(0, 0), first);
            due.answer("last row of kind " + kind, x.cell(23, 0), 23 - first);
        }
    }

    private static int lastNode(QueryPushCompiler x, int kind, int child, int other) {
        switch (kind) {
            case 0: return x.filter(child, 0, 5, 0);
            case 1: return x.filterCols(child, 0, 0, 0);
            case 3: return x.project(child, 0, 6);
            case 8: return x.join(child, other, 0, OUTER);
            case 9: return x.join(child, other, 5, ANTI);
            default: return oneChild(x, kind, child);
        }
    }
}
