/** The list of every kind of node ("Terms" of the document, promises 7 to 17). */
public final class ListsTest {
    private static final int LOW = Integer.MIN_VALUE;
    private static final int HIGH = Integer.MAX_VALUE;
    private static final int INNER = QueryPushCompiler.INNER;
    private static final int SEMI = QueryPushCompiler.SEMI;
    private static final int ANTI = QueryPushCompiler.ANTI;
    private static final int OUTER = QueryPushCompiler.OUTER;
    private static final Due due = new Due();

    public static void main(String[] args) {
        scanFollowsTheTable();
        filterComparesSigned();
        filterKeepsWholeRows();
        filterColsComparesSigned();
        mapWorksOutEveryOperation();
        mapSeesItsOwnColumn();
        projectChooses();
        joinOfEveryKind();
        joinUsesTheKeyColumnsOfItsSides();
        joinWithNothing();
        joinOuterPutsZerosOverOldValues();
        unionKeepsBothOrders();
        groupAggregates();
        groupWraps();
        groupKeysMayBeValues();
        distinctLooksAtEveryColumn();
        distinctLooksAtNoColumnOfAnOlderPlan();
        limitTakesTheFirst();
        sortIsStable();
        sortIsSigned();
        everyNodeKeepsWhatItWasMadeWith();
        due.end();
    }

    private static void scanFollowsTheTable() {
        QueryPushCompiler x = Scenes.with(2, Due.row(3, 4), Due.row(1, 2), Due.row(3, 4));
        due.list("as it is", x, 0, 2, Due.row(3, 4), Due.row(1, 2), Due.row(3, 4));
        x.dropRow(0, 0);
        x.setCell(0, 0, 1, 9);
        x.addRow(0, 6, 7, 8);
        due.list("as it is now", x, 0, 2, Due.row(1, 9), Due.row(3, 4), Due.row(6, 7));
    }

    private static boolean fulfils(int cmp, int a, int b) {
        switch (cmp) {
            case 0: return a == b;
            case 1: return a != b;
            case 2: return a < b;
            case 3: return a <= b;
            case 4: return a > b;
            default: return a >= b;
        }
    }

    private static void filterComparesSigned() {
        int[] values = {LOW, -5, -1, 0, 1, 5, HIGH};
        for (int cmp = 0; cmp < 6; cmp++) {
            for (int constant : values) {
                QueryPushCompiler x = new QueryPushCompiler(1);
                x.defineTable(0, 1);
                int count = 0;
                int[][] want = new int[values.length][];
                for (int value : values) {
                    x.addRow(0, value, 0, 0);
                    if (fulfils(cmp, value, constant)) {
                        want[count++] = Due.row(value);
                    }
                }
                x.scan(0);
                x.filter(0, 0, cmp, constant);
                due.list("filter " + cmp + " " + constant, x, 1, 1, java.util.Arrays.copyOf(want, count));
            }
        }
    }

    private static void filterKeepsWholeRows() {
        QueryPushCompiler x = Scenes.with(3, Due.row(1, 5, 9), Due.row(2, 6, 8), Due.row(3, 5, 7), Due.row(1, 5, 9));
        x.filter(0, 1, 0, 5);
        due.list("by column 1", x, 1, 3, Due.row(1, 5, 9), Due.row(3, 5, 7), Due.row(1, 5, 9));
        x.filter(1, 2, 4, 7);
        due.list("by column 2", x, 2, 3, Due.row(1, 5, 9), Due.row(1, 5, 9));
        x.filter(2, 0, 2, 1);
        due.list("none", x, 3, 3);
    }

    private static void filterColsComparesSigned() {
        int[][] rows = {{1, LOW, HIGH}, {2, HIGH, LOW}, {3, 0, 0}, {4, -1, 1}, {5, 1, -1}, {6, LOW, LOW}, {7, 2, 3}};
        for (int cmp = 0; cmp < 6; cmp++) {
            QueryPushCompiler x = Scenes.with(3, rows);
            int count = 0;
            int[][] want = new int[rows.length][];
            for (int[] row : rows) {
                if (fulfils(cmp, row[1], row[2])) {
                    want[count++] = row;
                }
            }
            x.filterCols(0, 1, cmp, 2);
            due.list("filterCols " + cmp, x, 1, 3, java.util.Arrays.copyOf(want, count));
        }
        QueryPushCompiler x = Scenes.with(2, Due.row(1, 2), Due.row(2, 1));
        x.filterCols(0, 1, 0, 1);
        due.list("a column with itself", x, 1, 2, Due.row(1, 2), Due.row(2, 1));
    }

    private static void mapWorksOutEveryOperation() {
        int[][] rows = {{7, 3}, {-7, 3}, {LOW, -1}, {HIGH, 1}, {HIGH, HIGH}, {LOW, LOW}, {0, LOW}, {65536, 65537}};
        for (int op = 0; op < 5; op++) {
            QueryPushCompiler x = Scenes.with(2, rows);
            int[][] want = new int[rows.length][];
            for (int i = 0; i < rows.length; i++) {
                int a = rows[i][1];
                int b = rows[i][0];
                int[] answers = {a + b, a - b, a * b, Math.min(a, b), Math.max(a, b)};
                want[i] = Due.row(b, a, answers[op]);
            }
            x.map(0, op, 1, 0);
            due.list("map " + op, x, 1, 3, want);
        }
        QueryPushCompiler x = Scenes.with(2, Due.row(HIGH, 1), Due.row(LOW, 1), Due.row(65536, 65536));
        x.map(0, QueryPushCompiler.ADD, 0, 1);
        x.map(1, QueryPushCompiler.SUB, 0, 1);
        x.map(2, QueryPushCompiler.MUL, 0, 1);
        due.list("wrapping", x, 3, 5, Due.row(HIGH, 1, LOW, HIGH - 1, HIGH), Due.row(LOW, 1, LOW + 1, HIGH, LOW),
                Due.row(65536, 65536, 131072, 0, 0));
    }

    private static void mapSeesItsOwnColumn() {
        QueryPushCompiler x = Scenes.with(2, Due.row(2, 3), Due.row(5, 4));
        x.map(0, QueryPushCompiler.MUL, 0, 1);
        x.map(1, QueryPushCompiler.ADD, 2, 2);
        x.map(2, QueryPushCompiler.LEAST, 3, 0);
        x.map(3, QueryPushCompiler.GREATEST, 1, 4);
        due.list("maps of maps", x, 4, 6, Due.row(2, 3, 6, 12, 2, 3), Due.row(5, 4, 20, 40, 5, 5));
    }

    private static void projectChooses() {
        QueryPushCompiler x = Scenes.with(3, Due.row(1, 2, 3), Due.row(4, 5, 6));
        x.project(0, 0_012, 2);
        due.list("the last two, turned round", x, 1, 2, Due.row(3, 2), Due.row(6, 5));
        x.project(1, 0_110010, 6);
        due.list("each more than once", x, 2, 6, Due.row(3, 2, 3, 3, 2, 2), Due.row(6, 5, 6, 6, 5, 5));
        x.project(2, ~0_777777 | 0_012345, 6);
        due.list("turned round; higher bits aren't looked at", x, 3, 6, Due.row(2, 2, 3, 3, 2, 3),
                Due.row(5, 5, 6, 6, 5, 6));
        x.project(3, 0_775, 1);
        due.list("one", x, 4, 1, Due.row(3), Due.row(6));
    }

    private static QueryPushCompiler joined(int kind) {
        QueryPushCompiler x = Scenes.with(3, Due.row(1, 10, 5), Due.row(2, 20, 6), Due.row(1, 30, 7),
                Due.row(3, 40, 8));
        Scenes.fill(x, 1, Due.row(1, 100), Due.row(3, 300), Due.row(1, 101));
        x.scan(1);
        due.answer("join", x.join(0, 1, 0, kind), 2);
        return x;
    }

    private static void joinOfEveryKind() {
        due.list("inner", joined(INNER), 2, 5, Due.row(1, 10, 5, 1, 100), Due.row(1, 10, 5, 1, 101),
                Due.row(1, 30, 7, 1, 100), Due.row(1, 30, 7, 1, 101), Due.row(3, 40, 8, 3, 300));
        due.list("semi", joined(SEMI), 2, 3, Due.row(1, 10, 5), Due.row(1, 30, 7), Due.row(3, 40, 8));
        due.list("anti", joined(ANTI), 2, 3, Due.row(2, 20, 6));
        due.list("outer", joined(OUTER), 2, 5, Due.row(1, 10, 5, 1, 100), Due.row(1, 10, 5, 1, 101),
                Due.row(2, 20, 6, 0, 0), Due.row(1, 30, 7, 1, 100), Due.row(1, 30, 7, 1, 101),
                Due.row(3, 40, 8, 3, 300));
    }

    private static void joinUsesTheKeyColumnsOfItsSides() {
        QueryPushCompiler x = Scenes.with(2, Due.row(5, 1), Due.row(1, 5));
        x.defineTable(1, 3);
        Scenes.fill(x, 1, Due.row(1, 5, 9), Due.row(9, 9, 5), Due.row(5, 1, 1));
        x.scan(1);
        x.join(0, 1, ~077 | 2 << 3, INNER);
        due.list("left 0, right 2", x, 2, 5, Due.row(5, 1, 9, 9, 5), Due.row(1, 5, 5, 1, 1));
        x.scan(0);
        x.scan(1);
        x.join(3, 4, 1 | 1 << 3 | 1 << 6, SEMI);
        due.list("left 1, right 1", x, 5, 2, Due.row(5, 1), Due.row(1, 5));
        x.setCell(1, 0, 1, 0);
        due.list("left 1, right 1 of today", x, 5, 2, Due.row(5, 1));
        semiAndAntiUseTheKeyColumnsOfTheirSides();
    }

    private static void semiAndAntiUseTheKeyColumnsOfTheirSides() {
        QueryPushCompiler x = Scenes.with(2, Due.row(1, 7), Due.row(2, 8), Due.row(3, 1));
        Scenes.fill(x, 1, Due.row(8, 1), Due.row(9, 3));
        int semi = x.join(0, x.scan(1), 1 << 3, SEMI);
        due.list("semi, left 0, right 1", x, semi, 2, Due.row(1, 7), Due.row(3, 1));
        int anti = x.join(x.scan(0), x.scan(1), 1 << 3, ANTI);
        due.list("anti, left 0, right 1", x, anti, 2, Due.row(2, 8));
        int other = x.join(x.scan(0), x.scan(1), 1, SEMI);
        due.list("semi, left 1, right 0", x, other, 2, Due.row(2, 8));
    }

    private static void joinWithNothing() {
        for (int kind = 0; kind < 4; kind++) {
            QueryPushCompiler x = Scenes.with(2, Due.row(0, 1), Due.row(2, 3));
            x.scan(1);
            x.join(0, 1, 0, kind);
            String of = "nothing on the right of kind " + kind;
            if (kind == ANTI) {
                due.list(of, x, 2, 2, Due.row(0, 1), Due.row(2, 3));
            } else if (kind == OUTER) {
                due.list(of, x, 2, 4, Due.row(0, 1, 0, 0), Due.row(2, 3, 0, 0));
            } else {
                due.list(of, x, 2, kind == INNER ? 4 : 2);
            }
            x.clearPlan();
            x.scan(1);
            x.scan(0);
            x.join(0, 1, 0, kind);
            due.list("nothing on the left of kind " + kind, x, 2, kind == INNER || kind == OUTER ? 4 : 2);
        }
    }

    /** The second run finds the first one's values where its zeros are due. */
    private static void joinOuterPutsZerosOverOldValues() {
        QueryPushCompiler x = Scenes.with(1, Due.row(4), Due.row(5));
        Scenes.fill(x, 1, Due.row(4, 40), Due.row(5, 50));
        x.scan(1);
        x.join(0, 1, 0, OUTER);
        due.list("all match", x, 2, 3, Due.row(4, 4, 40), Due.row(5, 5, 50));
        x.setCell(1, 0, 0, 6);
        due.list("one matches", x, 2, 3, Due.row(4, 0, 0), Due.row(5, 5, 50));
    }

    private static void unionKeepsBothOrders() {
        QueryPushCompiler x = Scenes.with(2, Due.row(2, 1), Due.row(1, 1));
        Scenes.fill(x, 1, Due.row(1, 1), Due.row(3, 1), Due.row(0, 1));
        x.scan(1);
        x.union(1, 0);
        due.list("right table first", x, 2, 2, Due.row(1, 1), Due.row(3, 1), Due.row(0, 1), Due.row(2, 1),
                Due.row(1, 1));
        x.filter(2, 0, 0, 1);
        x.scan(0);
        x.union(4, 3);
        due.list("of a union", x, 5, 2, Due.row(2, 1), Due.row(1, 1), Due.row(1, 1), Due.row(1, 1));
    }

    private static void groupAggregates() {
        int[][] rows = {{7, 4}, {-2, 5}, {7, -9}, {0, HIGH}, {-2, 3}, {7, 6}, {0, LOW}};
        int[][][] want = {
            {{7, 3}, {-2, 2}, {0, 2}},
            {{7, 1}, {-2, 8}, {0, -1}},
            {{7, -9}, {-2, 3}, {0, LOW}},
            {{7, 6}, {-2, 5}, {0, HIGH}},
        };
        for (int aggregate = 0; aggregate < 4; aggregate++) {
            QueryPushCompiler x = Scenes.with(2, rows);
            x.group(0, 0, aggregate, 1);
            due.list("aggregate " + aggregate, x, 1, 2, want[aggregate]);
            due.list("aggregate " + aggregate + " once more", x, 1, 2, want[aggregate]);
        }
        for (int aggregate = 0; aggregate < 4; aggregate++) {
            QueryPushCompiler x = Scenes.with(2);
            x.group(0, 0, aggregate, 1);
            due.list("of nothing", x, 1, 2);
            x.addRow(0, 0, -4, 0);
            due.list("of one row", x, 1, 2, Due.row(0, aggregate == QueryPushCompiler.COUNT ? 1 : -4));
        }
    }

    private static void groupWraps() {
        QueryPushCompiler x = Scenes.with(1, Due.row(HIGH), Due.row(HIGH), Due.row(HIGH));
        x.group(0, 0, QueryPushCompiler.SUM, 0);
        due.list("sum", x, 1, 2, Due.row(HIGH, HIGH - 2));
    }

    private static void groupKeysMayBeValues() {
        QueryPushCompiler x = Scenes.with(3, Due.row(9, 1, 2), Due.row(8, 2, 2), Due.row(7, 1, 4));
        x.group(0, 2, QueryPushCompiler.SUM, 2);
        due.list("key and value are one column", x, 1, 2, Due.row(2, 4), Due.row(4, 4));
        x.scan(0);
        x.group(2, 1, QueryPushCompiler.MAX, 0);
        due.list("key behind value", x, 3, 2, Due.row(1, 9), Due.row(2, 8));
        x.group(3, 1, QueryPushCompiler.COUNT, 1);
        due.list("of a group", x, 4, 2, Due.row(9, 1), Due.row(8, 1));
    }

    private static void distinctLooksAtEveryColumn() {
        QueryPushCompiler x = Scenes.with(3, Due.row(1, 1, 1), Due.row(1, 1, 2), Due.row(1, 2, 1), Due.row(1, 1, 1),
                Due.row(2, 1, 1), Due.row(1, 1, 2), Due.row(2, 1, 1), Due.row(0, 0, 0));
        x.distinct(0);
        due.list("distinct", x, 1, 3, Due.row(1, 1, 1), Due.row(1, 1, 2), Due.row(1, 2, 1), Due.row(2, 1, 1),
                Due.row(0, 0, 0));
        x.project(1, 0, 1);
        due.list("equal rows in a list", x, 2, 1, Due.row(1), Due.row(1), Due.row(1), Due.row(2), Due.row(0));
        x.distinct(2);
        due.list("of fewer columns", x, 3, 1, Due.row(1), Due.row(2), Due.row(0));
    }

    private static void distinctLooksAtNoColumnOfAnOlderPlan() {
        QueryPushCompiler x = Scenes.with(2, Due.row(1, 4), Due.row(1, 5));
        x.map(0, QueryPushCompiler.ADD, 1, 1);
        due.list("older plan", x, 1, 3, Due.row(1, 4, 8), Due.row(1, 5, 10));
        x.clearPlan();
        x.setCell(0, 1, 1, 4);
        x.scan(0);
        x.limit(0, 5);
        x.distinct(1);
        due.list("newer plan", x, 2, 2, Due.row(1, 4));
    }

    private static void limitTakesTheFirst() {
        int[] asked = {LOW, -1, 0, 1, 2, 3, 4, 25, HIGH};
        int[] taken = {0, 0, 0, 1, 2, 3, 3, 3, 3};
        int[][] rows = {{5, 6}, {3, 4}, {1, 2}};
        for (int i = 0; i < asked.length; i++) {
            QueryPushCompiler x = Scenes.with(2, rows);
            x.limit(0, asked[i]);
            due.list("limit " + asked[i], x, 1, 2, java.util.Arrays.copyOf(rows, taken[i]));
        }
    }

    private static void sortIsStable() {
        int[][] rows = {{2, 1}, {1, 2}, {2, 3}, {3, 4}, {1, 5}, {2, 6}};
        QueryPushCompiler x = Scenes.with(2, rows);
        x.sort(0, 0, false);
        due.list("ascending", x, 1, 2, Due.row(1, 2), Due.row(1, 5), Due.row(2, 1), Due.row(2, 3), Due.row(2, 6),
                Due.row(3, 4));
        x.scan(0);
        x.sort(2, 0, true);
        due.list("descending", x, 3, 2, Due.row(3, 4), Due.row(2, 1), Due.row(2, 3), Due.row(2, 6), Due.row(1, 2),
                Due.row(1, 5));
        x.sort(3, 1, true);
        due.list("by the other column", x, 4, 2, Due.row(2, 6), Due.row(1, 5), Due.row(3, 4), Due.row(2, 3),
                Due.row(1, 2), Due.row(2, 1));
        x.sort(4, 0, false);
        due.list("in the order of its child", x, 5, 2, Due.row(1, 5), Due.row(1, 2), Due.row(2, 6), Due.row(2, 3),
                Due.row(2, 1), Due.row(3, 4));
    }

    private static void sortIsSigned() {
        QueryPushCompiler x = Scenes.with(1, Due.row(0), Due.row(HIGH), Due.row(-1), Due.row(LOW), Due.row(1));
        x.sort(0, 0, false);
        due.list("ascending", x, 1, 1, Due.row(LOW), Due.row(-1), Due.row(0), Due.row(1), Due.row(HIGH));
        x.sort(1, 0, true);
        due.list("descending", x, 2, 1, Due.row(HIGH), Due.row(1), Due.row(0), Due.row(-1), Due.row(LOW));
    }

    /** Two nodes of a kind in one plan, made with different arguments, and one more plan over their leftovers. */
    private static void everyNodeKeepsWhatItWasMadeWith() {
        QueryPushCompiler x = Scenes.with(2, Due.row(1, 4), Due.row(2, 3), Due.row(3, 2));
        x.filter(0, 0, 4, 1);
        x.filter(1, 1, 4, 2);
        x.scan(0);
        x.map(3, QueryPushCompiler.SUB, 0, 1);
        x.map(4, QueryPushCompiler.MUL, 2, 2);
        x.sort(5, 3, true);
        due.list("first filter", x, 1, 2, Due.row(2, 3), Due.row(3, 2));
        due.list("second filter", x, 2, 2, Due.row(2, 3));
        due.list("maps", x, 6, 4, Due.row(1, 4, -3, 9), Due.row(2, 3, -1, 1), Due.row(3, 2, 1, 1));
        x.clearPlan();
        x.scan(0);
        x.distinct(0);
        x.limit(1, 2);
        due.list("a new plan's distinct", x, 1, 2, Due.row(1, 4), Due.row(2, 3), Due.row(3, 2));
        due.list("a new plan's limit", x, 2, 2, Due.row(1, 4), Due.row(2, 3));
    }
}
