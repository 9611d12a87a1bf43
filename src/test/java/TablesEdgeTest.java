import java.util.function.ToIntFunction;

/** The sentences of promises 1 to 5 and 23 that name an edge, each with a test of its own. */
public final class TablesEdgeTest {
    private static final int LOW = Scenes.LOW;
    private static final int HIGH = Scenes.HIGH;
    private static final int BAD_TABLE = QueryPushCompiler.BAD_TABLE;
    private static final int BAD_WIDTH = QueryPushCompiler.BAD_WIDTH;
    private static final int BAD_COLUMN = QueryPushCompiler.BAD_COLUMN;
    private static final int BAD_NODE = QueryPushCompiler.BAD_NODE;
    private static final int TABLE_FULL = QueryPushCompiler.TABLE_FULL;
    private static final int PLAN_FULL = QueryPushCompiler.PLAN_FULL;
    private static final int IN_USE = QueryPushCompiler.IN_USE;
    private static final int BAD_ROW = QueryPushCompiler.BAD_ROW;
    private static final Due due = new Due();

    public static void main(String[] args) {
        tooFewTablesBecomeOne();
        tooManyTablesBecomeFour();
        theTablesAreNumberedFromZero();
        newTablesAreTwoWideAndEmpty();
        aNewObjectHasNoNodes();
        aNewObjectHasAnEmptyResult();
        theLastCallThatIsPromised();
        defineTableDropsRows();
        defineTableOfNoTable();
        defineTableOfNoWidth();
        defineTableOfAScannedTable();
        defineTableTestsInOrder();
        defineTableRefusedChangesNothing();
        addRowTakesAsManyAsTheTableIsWide();
        addRowToNoTable();
        addRowToAFullTable();
        addRowRefusedChangesNothing();
        addRowAnswersTheIndex();
        addRowToAScannedTable();
        setCellOfNoTable();
        setCellOfNoRow();
        setCellOfNoColumn();
        setCellTestsInOrder();
        setCellRefusedChangesNothing();
        setCellChangesOneValue();
        setCellAnswersZero();
        dropRowMovesLaterRows();
        dropRowOfNoTable();
        dropRowOfNoRow();
        dropRowAnswersWhatIsLeft();
        dropRowRefusedChangesNothing();
        tableRowsFromEmptyToFull();
        tableRowsOfNoTable();
        due.end();
    }

    private static void refused(String name, ToIntFunction<QueryPushCompiler> call, int want) {
        new Twins(due, Scenes::usual).unchangedBy(name, call, want);
    }

    private static void hasTables(QueryPushCompiler x, int count) {
        due.answer("the last table", x.tableRows(count - 1), 0);
        due.answer("the one behind it", x.tableRows(count), BAD_TABLE);
        due.answer("a row for the last", x.addRow(count - 1, 1, 1, 1), 0);
        due.answer("a row for the one behind it", x.addRow(count, 1, 1, 1), BAD_TABLE);
        due.answer("a scan of the last", x.scan(count - 1), 0);
        due.answer("a scan of the one behind it", x.scan(count), BAD_TABLE);
    }

    private static void tooFewTablesBecomeOne() {
        due.sentence("Promise 1", "below 1 becomes 1");
        for (int asked : new int[] {1, 0, -1, -4, LOW}) {
            hasTables(new QueryPushCompiler(asked), 1);
        }
    }

    private static void tooManyTablesBecomeFour() {
        due.sentence("Promise 1", "above 4 becomes 4");
        for (int asked : new int[] {4, 5, 6, 100, HIGH}) {
            hasTables(new QueryPushCompiler(asked), 4);
        }
    }

    private static void theTablesAreNumberedFromZero() {
        due.sentence("Promise 1", "the tables are 0 to tables - 1");
        for (int count = 1; count <= 4; count++) {
            hasTables(new QueryPushCompiler(count), count);
            QueryPushCompiler x = new QueryPushCompiler(count);
            for (int table = 0; table < count; table++) {
                due.answer("table " + table + " of " + count, x.tableRows(table), 0);
            }
            due.answer("table -1", x.tableRows(-1), BAD_TABLE);
        }
    }

    private static void newTablesAreTwoWideAndEmpty() {
        due.sentence("Promise 1", "each of width 2 and without rows");
        QueryPushCompiler x = new QueryPushCompiler(4);
        for (int table = 0; table < 4; table++) {
            due.answer("tableRows", x.tableRows(table), 0);
            due.answer("no row to drop", x.dropRow(table, 0), BAD_ROW);
            due.list("a scan", x, x.scan(table), 2);
        }
    }

    private static void aNewObjectHasNoNodes() {
        due.sentence("Promise 1", "No nodes.");
        QueryPushCompiler x = new QueryPushCompiler(4);
        for (int node : new int[] {-1, 0, 1, 11, 12}) {
            due.answer("width", x.width(node), BAD_NODE);
            due.answer("run", x.run(node), BAD_NODE);
            due.answer("distinct", x.distinct(node), BAD_NODE);
        }
        due.answer("no table is scanned", x.defineTable(0, 2), 0);
        due.answer("the first node", x.scan(0), 0);
    }

    private static void aNewObjectHasAnEmptyResult() {
        due.sentence("Promise 1", "The result has 0 rows and width 0.");
        QueryPushCompiler x = new QueryPushCompiler(1);
        due.result("new", x, 0);
        due.answer("cell", x.cell(0, 0), 0);
    }

    private static void theLastCallThatIsPromised() {
        due.sentence("What it is", "An object is used for at most 512 calls after it has been made");
        QueryPushCompiler x = new QueryPushCompiler(1);
        int calls = 0;
        for (int round = 0; round < 100; round++) {
            due.answer("addRow", x.addRow(0, round, -round, 0), 0);
            due.answer("scan", x.scan(0), 0);
            due.answer("run", x.run(0), 1);
            due.answer("dropRow", x.dropRow(0, 0), 0);
            x.clearPlan();
            calls += 5;
        }
        while (calls < 510) {
            due.answer("addRow", x.addRow(0, calls, 0, 0), calls - 500);
            calls++;
        }
        due.answer("call 511", x.cell(0, 1), -99);
        due.answer("call 512", x.addRow(0, 1, 1, 1), TABLE_FULL);
    }

    private static void defineTableDropsRows() {
        due.sentence("Promise 2", "Gives a table a new width and drops its rows.");
        for (int width = 1; width <= 3; width++) {
            QueryPushCompiler x = new QueryPushCompiler(2);
            for (int row = 0; row < 10; row++) {
                x.addRow(0, 1, 1, 1);
                x.addRow(1, 1, 1, 1);
            }
            due.answer("a full table", x.defineTable(0, width), 0);
            due.answer("its rows", x.tableRows(0), 0);
            due.answer("the other table's rows", x.tableRows(1), 10);
            due.answer("its first row", x.addRow(0, 1, 1, 1), 0);
            due.answer("once more", x.defineTable(0, width), 0);
            due.answer("its rows", x.tableRows(0), 0);
            due.answer("an empty table", x.defineTable(0, width), 0);
            due.list("its width", x, x.scan(0), width);
        }
    }

    private static void defineTableOfNoTable() {
        due.sentence("Promise 2", "no such table: BAD_TABLE");
        for (int table : Scenes.outside(0, 2)) {
            refused("defineTable(" + table + ", 2)", x -> x.defineTable(table, 2), BAD_TABLE);
        }
    }

    private static void defineTableOfNoWidth() {
        due.sentence("Promise 2", "width not in 1 to 3: BAD_WIDTH");
        for (int width : Scenes.outside(1, 3)) {
            refused("defineTable(2, " + width + ")", x -> x.defineTable(2, width), BAD_WIDTH);
        }
        due.answer("the least width", Scenes.usual().defineTable(2, 1), 0);
        due.answer("the greatest width", Scenes.usual().defineTable(2, 3), 0);
    }

    private static void defineTableOfAScannedTable() {
        due.sentence("Promise 2", "the plan has a scan node of this table: IN_USE");
        refused("scanned by a node that is free", x -> x.defineTable(0, 2), IN_USE);
        QueryPushCompiler x = new QueryPushCompiler(4);
        x.scan(1);
        x.limit(0, 1);
        due.answer("scanned by a child alone", x.defineTable(1, 2), IN_USE);
        for (int node = 2; node < 11; node++) {
            x.scan(0);
        }
        due.answer("not scanned yet", x.defineTable(3, 2), 0);
        due.answer("the last node", x.scan(3), 11);
        due.answer("scanned by the last node alone", x.defineTable(3, 2), IN_USE);
        due.answer("a scan that is refused", x.scan(2), PLAN_FULL);
        due.answer("the scan of the table was refused", x.defineTable(2, 2), 0);
        x.clearPlan();
        for (int table = 0; table < 4; table++) {
            due.answer("the plan is cleared", x.defineTable(table, 2), 0);
        }
    }

    private static void defineTableTestsInOrder() {
        due.sentence("Promise 2", "Tests in this order");
        refused("no table, no width", x -> x.defineTable(3, 0), BAD_TABLE);
        refused("no table, no width", x -> x.defineTable(-1, 4), BAD_TABLE);
        refused("no width, scanned", x -> x.defineTable(0, 0), BAD_WIDTH);
        refused("no width, scanned", x -> x.defineTable(1, 4), BAD_WIDTH);
    }

    private static void defineTableRefusedChangesNothing() {
        due.sentence("Promise 2", "A refused call changes nothing. Else answers 0.");
        refused("scanned", x -> x.defineTable(1, 1), IN_USE);
        refused("a full table", x -> x.defineTable(2, 4), BAD_WIDTH);
        refused("no table", x -> x.defineTable(3, 1), BAD_TABLE);
        due.answer("not refused", Scenes.usual().defineTable(2, 2), 0);
    }

    private static void addRowTakesAsManyAsTheTableIsWide() {
        due.sentence("Promise 3", "a table of width w takes the first w of a, b, c, and the others are not looked at");
        int[][] want = {{LOW}, {LOW, HIGH}, {LOW, HIGH, -1}};
        for (int width = 1; width <= 3; width++) {
            QueryPushCompiler x = new QueryPushCompiler(1);
            x.defineTable(0, width);
            x.addRow(0, LOW, HIGH, -1);
            due.list("width " + width, x, x.scan(0), width, want[width - 1]);
            due.answer("behind its last column", x.cell(0, width), 0);
        }
    }

    private static void addRowToNoTable() {
        due.sentence("Promise 3", "No such table: BAD_TABLE");
        for (int table : Scenes.outside(0, 2)) {
            refused("addRow to " + table, x -> x.addRow(table, 1, 1, 1), BAD_TABLE);
        }
    }

    private static void addRowToAFullTable() {
        due.sentence("Promise 3", "it has 10 rows: TABLE_FULL");
        QueryPushCompiler x = new QueryPushCompiler(4);
        for (int table = 0; table < 4; table++) {
            for (int row = 0; row < 9; row++) {
                x.addRow(table, 1, 1, 1);
            }
            due.answer("a 10th row", x.addRow(table, 1, 1, 1), 9);
            due.answer("an 11th row", x.addRow(table, 1, 1, 1), TABLE_FULL);
            due.answer("and again", x.addRow(table, 1, 1, 1), TABLE_FULL);
        }
        x.dropRow(2, 9);
        due.answer("one was dropped", x.addRow(2, 1, 1, 1), 9);
        due.answer("full again", x.addRow(2, 1, 1, 1), TABLE_FULL);
        x.defineTable(3, 3);
        due.answer("all were dropped", x.addRow(3, 1, 1, 1), 0);
    }

    private static void addRowRefusedChangesNothing() {
        due.sentence("Promise 3", "refused calls change nothing.");
        refused("a full table", x -> x.addRow(2, 77, 77, 77), TABLE_FULL);
        refused("no table", x -> x.addRow(3, 77, 77, 77), BAD_TABLE);
        refused("no table", x -> x.addRow(-1, 77, 77, 77), BAD_TABLE);
    }

    private static void addRowAnswersTheIndex() {
        due.sentence("Promise 3", "Else answers the row's index.");
        QueryPushCompiler x = new QueryPushCompiler(1);
        for (int row = 0; row < 10; row++) {
            due.answer("addRow", x.addRow(0, LOW, LOW, LOW), row);
        }
        x.dropRow(0, 0);
        x.dropRow(0, 0);
        due.answer("behind those that are left", x.addRow(0, 1, 1, 1), 8);
    }

    private static void addRowToAScannedTable() {
        due.sentence("Promise 3", "Allowed whether or not nodes scan the table.");
        QueryPushCompiler x = Scenes.usual();
        due.answer("scanned", x.addRow(0, 8, 9, 0), 3);
        due.list("its scan", x, 0, 2, Due.row(4, 5), Due.row(4, 5), Due.row(-6, 7), Due.row(8, 9));
        x.clearPlan();
        due.answer("not scanned", x.addRow(0, 8, 9, 0), 4);
    }

    private static void setCellOfNoTable() {
        due.sentence("Promise 4", "no such table: BAD_TABLE");
        for (int table : Scenes.outside(0, 2)) {
            refused("setCell of table " + table, x -> x.setCell(table, 0, 0, 77), BAD_TABLE);
        }
    }

    private static void setCellOfNoRow() {
        due.sentence("Promise 4", "no such row: BAD_ROW");
        for (int row : Scenes.outside(0, 2)) {
            refused("setCell of row " + row, x -> x.setCell(0, row, 0, 77), BAD_ROW);
        }
        for (int row : Scenes.outside(0, 9)) {
            refused("setCell of row " + row + " of a full table", x -> x.setCell(2, row, 0, 77), BAD_ROW);
        }
        QueryPushCompiler x = new QueryPushCompiler(1);
        due.answer("an empty table", x.setCell(0, 0, 0, 77), BAD_ROW);
        x.addRow(0, 1, 1, 1);
        x.dropRow(0, 0);
        due.answer("a table that was emptied", x.setCell(0, 0, 0, 77), BAD_ROW);
    }

    private static void setCellOfNoColumn() {
        due.sentence("Promise 4", "column not in 0 to the table's width - 1: BAD_COLUMN");
        int[] widths = {2, 3, 1};
        for (int i = 0; i < 3; i++) {
            int table = i;
            for (int column : Scenes.outside(0, widths[i] - 1)) {
                refused("setCell of column " + column, x -> x.setCell(table, 1, column, 77), BAD_COLUMN);
            }
            due.answer("the last column", Scenes.usual().setCell(table, 1, widths[i] - 1, 77), 0);
            due.answer("the first column", Scenes.usual().setCell(table, 1, 0, 77), 0);
        }
    }

    private static void setCellTestsInOrder() {
        due.sentence("Promise 4", "Tests in this order");
        refused("no table, no row, no column", x -> x.setCell(3, 10, 3, 77), BAD_TABLE);
        refused("no table, no row", x -> x.setCell(-1, -1, 0, 77), BAD_TABLE);
        refused("no table, no column", x -> x.setCell(3, 0, -1, 77), BAD_TABLE);
        refused("no row, no column", x -> x.setCell(0, 3, 2, 77), BAD_ROW);
        refused("no row, no column", x -> x.setCell(0, -1, -1, 77), BAD_ROW);
    }

    private static void setCellRefusedChangesNothing() {
        due.sentence("Promise 4", "A refused call changes nothing.");
        refused("a column that would be the next row's", x -> x.setCell(1, 0, 3, 77), BAD_COLUMN);
        refused("a column that would be the last row's", x -> x.setCell(1, 1, -1, 77), BAD_COLUMN);
        refused("a row that would be the next table's", x -> x.setCell(0, 10, 0, 77), BAD_ROW);
        refused("a row that would be the last table's", x -> x.setCell(1, -10, 0, 77), BAD_ROW);
    }

    private static void setCellChangesOneValue() {
        due.sentence("Promise 4", "Changes one value.");
        QueryPushCompiler x = Scenes.usual();
        due.answer("the first value", x.setCell(1, 0, 0, LOW), 0);
        due.answer("the last value", x.setCell(1, 1, 2, HIGH), 0);
        due.list("its table", x, 1, 3, Due.row(LOW, 2, 3), Due.row(4, 5, HIGH));
        due.list("another table", x, 0, 2, Due.row(4, 5), Due.row(4, 5), Due.row(-6, 7));
        due.answer("the last row of a full table", x.setCell(2, 9, 0, -1), 0);
        due.answer("run", x.run(x.scan(2)), 10);
        due.answer("its value", x.cell(9, 0), -1);
    }

    private static void setCellAnswersZero() {
        due.sentence("Promise 4", "Else answers 0.");
        QueryPushCompiler x = Scenes.usual();
        for (int value : new int[] {0, 1, -1, -12, LOW, HIGH}) {
            due.answer("whatever the value is", x.setCell(0, 2, 1, value), 0);
        }
        due.answer("though nothing is new", x.setCell(1, 0, 0, 1), 0);
        due.answer("of a full table", x.setCell(2, 9, 0, 1), 0);
    }

    /** A full table of each width, less its first, a middle and its last row. */
    private static void dropRowMovesLaterRows() {
        due.sentence("Promise 5", "Takes a row out; later rows move down by one.");
        for (int width = 1; width <= 3; width++) {
            for (int dropped : new int[] {0, 4, 9}) {
                QueryPushCompiler x = new QueryPushCompiler(2);
                x.defineTable(0, width);
                int[][] want = new int[9][];
                for (int row = 0; row < 10; row++) {
                    x.addRow(0, row, 10 * row, 100 * row);
                    if (row != dropped) {
                        want[row < dropped ? row : row - 1] =
                                java.util.Arrays.copyOf(Due.row(row, 10 * row, 100 * row), width);
                    }
                }
                x.addRow(1, 7, 8, 9);
                due.answer("dropRow(0, " + dropped + ")", x.dropRow(0, dropped), 9);
                due.list("what is left", x, x.scan(0), width, want);
                due.list("the next table", x, x.scan(1), 2, Due.row(7, 8));
            }
        }
    }

    private static void dropRowOfNoTable() {
        due.sentence("Promise 5", "No such table: BAD_TABLE");
        for (int table : Scenes.outside(0, 2)) {
            refused("dropRow(" + table + ", 0)", x -> x.dropRow(table, 0), BAD_TABLE);
        }
        refused("no table, no row", x -> x.dropRow(3, 10), BAD_TABLE);
        refused("no table, no row", x -> x.dropRow(-1, -1), BAD_TABLE);
    }

    private static void dropRowOfNoRow() {
        due.sentence("Promise 5", "no such row: BAD_ROW");
        for (int row : Scenes.outside(0, 2)) {
            refused("dropRow(0, " + row + ")", x -> x.dropRow(0, row), BAD_ROW);
        }
        for (int row : Scenes.outside(0, 9)) {
            refused("dropRow(2, " + row + ")", x -> x.dropRow(2, row), BAD_ROW);
        }
        due.answer("an empty table", new QueryPushCompiler(1).dropRow(0, 0), BAD_ROW);
    }

    private static void dropRowAnswersWhatIsLeft() {
        due.sentence("Promise 5", "else answers how many rows are left");
        QueryPushCompiler x = Scenes.usual();
        for (int left = 9; left >= 0; left--) {
            due.answer("dropRow", x.dropRow(2, 0), left);
            due.answer("tableRows", x.tableRows(2), left);
        }
        due.answer("none is left", x.dropRow(2, 0), BAD_ROW);
    }

    /** Where there is no such table or no such row, the sentence names no row that is taken out. */
    private static void dropRowRefusedChangesNothing() {
        due.sentence("Promise 5", "No such table: BAD_TABLE; no such row: BAD_ROW; else");
        refused("a row that would be the next table's", x -> x.dropRow(0, 10), BAD_ROW);
        refused("a row that would be the last table's", x -> x.dropRow(1, -10), BAD_ROW);
        refused("the row behind the last", x -> x.dropRow(1, 2), BAD_ROW);
    }

    private static void tableRowsFromEmptyToFull() {
        due.sentence("Promise 23", "How many rows the table has");
        QueryPushCompiler x = new QueryPushCompiler(2);
        due.answer("empty", x.tableRows(1), 0);
        for (int row = 0; row < 10; row++) {
            x.addRow(1, 0, 0, 0);
            due.answer("tableRows", x.tableRows(1), row + 1);
        }
        x.addRow(1, 0, 0, 0);
        due.answer("after a refused row", x.tableRows(1), 10);
        due.answer("the other table", x.tableRows(0), 0);
    }

    private static void tableRowsOfNoTable() {
        due.sentence("Promise 23", "BAD_TABLE if there is none.");
        for (int table : Scenes.outside(0, 2)) {
            refused("tableRows(" + table + ")", x -> x.tableRows(table), BAD_TABLE);
        }
    }
}
