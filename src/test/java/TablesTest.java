/** Promises 1 to 5 and 23: a new object and its tables. */
public final class TablesTest {
    private static final int LOW = Integer.MIN_VALUE;
    private static final int HIGH = Integer.MAX_VALUE;
    private static final Due due = new Due();

    public static void main(String[] args) {
        newObjectClampsItsTables();
        newObjectIsEmpty();
        defineTableGivesWidthAndDropsRows();
        defineTableRefusesInOrder();
        defineTableIsRefusedWhileScanned();
        addRowTakesTheFirstColumns();
        addRowRefuses();
        setCellChangesOneValue();
        setCellRefusesInOrder();
        dropRowMovesLaterRowsDown();
        dropRowRefuses();
        tablesAreApart();
        due.end();
    }

    private static void newObjectClampsItsTables() {
        int[] asked = {LOW, -1, 0, 1, 2, 3, 4, 5, 100, HIGH};
        int[] made = {1, 1, 1, 1, 2, 3, 4, 4, 4, 4};
        for (int i = 0; i < asked.length; i++) {
            QueryPushCompiler x = new QueryPushCompiler(asked[i]);
            for (int table = -2; table < 7; table++) {
                boolean there = table >= 0 && table < made[i];
                String of = "new(" + asked[i] + ") table " + table;
                due.answer(of + " tableRows", x.tableRows(table), there ? 0 : QueryPushCompiler.BAD_TABLE);
                due.answer(of + " scan", x.scan(table) < 0 ? -1 : 0, there ? 0 : QueryPushCompiler.BAD_TABLE);
            }
            due.answer("tableRows(LOW)", x.tableRows(LOW), QueryPushCompiler.BAD_TABLE);
            due.answer("tableRows(HIGH)", x.tableRows(HIGH), QueryPushCompiler.BAD_TABLE);
        }
    }

    private static void newObjectIsEmpty() {
        QueryPushCompiler x = new QueryPushCompiler(4);
        due.answer("resultRows of a new one", x.resultRows(), 0);
        due.answer("resultWidth of a new one", x.resultWidth(), 0);
        due.answer("cell of a new one", x.cell(0, 0), 0);
        due.answer("width(0) of a new one", x.width(0), QueryPushCompiler.BAD_NODE);
        due.answer("run(0) of a new one", x.run(0), QueryPushCompiler.BAD_NODE);
        for (int table = 0; table < 4; table++) {
            due.answer("first node", x.scan(table), table);
            due.answer("width of a new table", x.width(table), 2);
            due.list("new table", x, table, 2);
        }
    }

    private static void defineTableGivesWidthAndDropsRows() {
        for (int width = 1; width <= 3; width++) {
            QueryPushCompiler x = new QueryPushCompiler(2);
            x.addRow(1, 7, 8, 9);
            due.answer("defineTable", x.defineTable(1, width), 0);
            due.answer("rows are dropped", x.tableRows(1), 0);
            x.scan(1);
            due.answer("new width", x.width(0), width);
            due.list("defined table", x, 0, width);
            due.answer("addRow begins again", x.addRow(1, 1, 2, 3), 0);
        }
        QueryPushCompiler x = new QueryPushCompiler(1);
        x.addRow(0, 7, 8, 9);
        due.answer("defineTable with the same width", x.defineTable(0, 2), 0);
        due.answer("drops rows all the same", x.tableRows(0), 0);
    }

    private static void defineTableRefusesInOrder() {
        QueryPushCompiler x = new QueryPushCompiler(2);
        x.addRow(0, 5, 6, 7);
        x.scan(0);
        due.answer("no table, no width", x.defineTable(2, 0), QueryPushCompiler.BAD_TABLE);
        due.answer("no table", x.defineTable(-1, 2), QueryPushCompiler.BAD_TABLE);
        due.answer("table HIGH", x.defineTable(HIGH, 2), QueryPushCompiler.BAD_TABLE);
        due.answer("table LOW", x.defineTable(LOW, 2), QueryPushCompiler.BAD_TABLE);
        due.answer("width 0 of a scanned one", x.defineTable(0, 0), QueryPushCompiler.BAD_WIDTH);
        due.answer("width 4 of a scanned one", x.defineTable(0, 4), QueryPushCompiler.BAD_WIDTH);
        due.answer("width LOW", x.defineTable(1, LOW), QueryPushCompiler.BAD_WIDTH);
        due.answer("width HIGH", x.defineTable(1, HIGH), QueryPushCompiler.BAD_WIDTH);
        due.answer("scanned", x.defineTable(0, 3), QueryPushCompiler.IN_USE);
        due.list("refused calls change nothing", x, 0, 2, Due.row(5, 6));
    }

    private static void defineTableIsRefusedWhileScanned() {
        QueryPushCompiler x = new QueryPushCompiler(3);
        x.scan(1);
        x.limit(0, 0);
        due.answer("scanned below another node", x.defineTable(1, 2), QueryPushCompiler.IN_USE);
        due.answer("another table", x.defineTable(0, 3), 0);
        due.answer("a table whose number a limit bears", x.defineTable(2, 3), 0);
        x.scan(2);
        due.answer("scanned by the last node", x.defineTable(2, 3), QueryPushCompiler.IN_USE);
        x.clearPlan();
        due.answer("after clearPlan", x.defineTable(1, 1), 0);
        due.answer("after clearPlan", x.defineTable(2, 1), 0);
        x.scan(0);
        due.answer("only the new plan counts", x.defineTable(2, 2), 0);
    }

    private static void addRowTakesTheFirstColumns() {
        int[][] want = {{LOW}, {LOW, HIGH}, {LOW, HIGH, -3}};
        for (int width = 1; width <= 3; width++) {
            QueryPushCompiler x = new QueryPushCompiler(1);
            x.defineTable(0, width);
            x.scan(0);
            due.answer("addRow to a scanned table", x.addRow(0, LOW, HIGH, -3), 0);
            due.list("width " + width, x, 0, width, want[width - 1]);
            due.answer("cell behind the row", x.cell(0, width), 0);
        }
    }

    private static void addRowRefuses() {
        QueryPushCompiler x = new QueryPushCompiler(4);
        for (int row = 0; row < 10; row++) {
            due.answer("addRow", x.addRow(3, row, -row, 0), row);
            due.answer("tableRows", x.tableRows(3), row + 1);
        }
        due.answer("an 11th row", x.addRow(3, 77, 77, 77), QueryPushCompiler.TABLE_FULL);
        due.answer("no table -1", x.addRow(-1, 0, 0, 0), QueryPushCompiler.BAD_TABLE);
        due.answer("no table 4", x.addRow(4, 0, 0, 0), QueryPushCompiler.BAD_TABLE);
        due.answer("no table LOW", x.addRow(LOW, 0, 0, 0), QueryPushCompiler.BAD_TABLE);
        due.answer("no table HIGH", x.addRow(HIGH, 0, 0, 0), QueryPushCompiler.BAD_TABLE);
        due.answer("still 10", x.tableRows(3), 10);
        due.answer("the others are empty", x.tableRows(0) + x.tableRows(1) + x.tableRows(2), 0);
        x.scan(3);
        due.answer("run", x.run(0), 10);
        for (int row = 0; row < 10; row++) {
            due.answer("cell", x.cell(row, 0), row);
            due.answer("cell", x.cell(row, 1), -row);
        }
        due.answer("a row is dropped", x.dropRow(3, 4), 9);
        due.answer("there is place again", x.addRow(3, 5, 5, 5), 9);
        due.answer("and full again", x.addRow(3, 5, 5, 5), QueryPushCompiler.TABLE_FULL);
    }

    private static void setCellChangesOneValue() {
        QueryPushCompiler x = new QueryPushCompiler(1);
        x.defineTable(0, 3);
        x.addRow(0, 1, 2, 3);
        x.addRow(0, 4, 5, 6);
        x.scan(0);
        due.answer("setCell", x.setCell(0, 1, 0, LOW), 0);
        due.answer("setCell", x.setCell(0, 0, 2, HIGH), 0);
        due.answer("setCell", x.setCell(0, 1, 1, 0), 0);
        due.list("set cells", x, 0, 3, Due.row(1, 2, HIGH), Due.row(LOW, 0, 6));
    }

    private static void setCellRefusesInOrder() {
        QueryPushCompiler x = new QueryPushCompiler(2);
        x.addRow(1, 1, 2, 0);
        x.addRow(1, 3, 4, 0);
        due.answer("no table, row, column", x.setCell(2, 9, 9, 50), QueryPushCompiler.BAD_TABLE);
        due.answer("no table", x.setCell(-1, 0, 0, 50), QueryPushCompiler.BAD_TABLE);
        due.answer("table LOW", x.setCell(LOW, 0, 0, 50), QueryPushCompiler.BAD_TABLE);
        due.answer("table HIGH", x.setCell(HIGH, 0, 0, 50), QueryPushCompiler.BAD_TABLE);
        due.answer("no row in an empty one", x.setCell(0, 0, 0, 50), QueryPushCompiler.BAD_ROW);
        due.answer("no row, no column", x.setCell(1, 2, 2, 50), QueryPushCompiler.BAD_ROW);
        due.answer("row -1", x.setCell(1, -1, 0, 50), QueryPushCompiler.BAD_ROW);
        due.answer("row LOW", x.setCell(1, LOW, 0, 50), QueryPushCompiler.BAD_ROW);
        due.answer("row HIGH", x.setCell(1, HIGH, 0, 50), QueryPushCompiler.BAD_ROW);
        due.answer("column 2", x.setCell(1, 0, 2, 50), QueryPushCompiler.BAD_COLUMN);
        due.answer("column -1", x.setCell(1, 1, -1, 50), QueryPushCompiler.BAD_COLUMN);
        due.answer("column LOW", x.setCell(1, 1, LOW, 50), QueryPushCompiler.BAD_COLUMN);
        due.answer("column HIGH", x.setCell(1, 1, HIGH, 50), QueryPushCompiler.BAD_COLUMN);
        x.scan(1);
        due.list("refused calls change nothing", x, 0, 2, Due.row(1, 2), Due.row(3, 4));
        due.answer("and no row came", x.tableRows(0), 0);
    }

    private static void dropRowMovesLaterRowsDown() {
        QueryPushCompiler x = new QueryPushCompiler(1);
        x.defineTable(0, 3);
        for (int row = 0; row < 5; row++) {
            x.addRow(0, row, 10 * row, 100 * row);
        }
        x.scan(0);
        due.answer("drop one amid", x.dropRow(0, 1), 4);
        due.list("amid", x, 0, 3, Due.row(0, 0, 0), Due.row(2, 20, 200), Due.row(3, 30, 300), Due.row(4, 40, 400));
        due.answer("drop the first", x.dropRow(0, 0), 3);
        due.list("first", x, 0, 3, Due.row(2, 20, 200), Due.row(3, 30, 300), Due.row(4, 40, 400));
        due.answer("drop the last", x.dropRow(0, 2), 2);
        due.list("last", x, 0, 3, Due.row(2, 20, 200), Due.row(3, 30, 300));
        due.answer("drop", x.dropRow(0, 0), 1);
        due.answer("drop", x.dropRow(0, 0), 0);
        due.list("none is left", x, 0, 3);
        due.answer("drop from an empty one", x.dropRow(0, 0), QueryPushCompiler.BAD_ROW);
    }

    private static void dropRowRefuses() {
        QueryPushCompiler x = new QueryPushCompiler(3);
        x.addRow(2, 1, 2, 0);
        due.answer("no table, no row", x.dropRow(3, 5), QueryPushCompiler.BAD_TABLE);
        due.answer("table -1", x.dropRow(-1, 0), QueryPushCompiler.BAD_TABLE);
        due.answer("table LOW", x.dropRow(LOW, 0), QueryPushCompiler.BAD_TABLE);
        due.answer("table HIGH", x.dropRow(HIGH, 0), QueryPushCompiler.BAD_TABLE);
        due.answer("row 1", x.dropRow(2, 1), QueryPushCompiler.BAD_ROW);
        due.answer("row -1", x.dropRow(2, -1), QueryPushCompiler.BAD_ROW);
        due.answer("row LOW", x.dropRow(2, LOW), QueryPushCompiler.BAD_ROW);
        due.answer("row HIGH", x.dropRow(2, HIGH), QueryPushCompiler.BAD_ROW);
        due.answer("refused calls change nothing", x.tableRows(2), 1);
    }

    /** Full tables beside each other, at the edges of what an object holds. */
    private static void tablesAreApart() {
        QueryPushCompiler x = new QueryPushCompiler(4);
        for (int table = 0; table < 4; table++) {
            x.defineTable(table, 3);
            for (int row = 0; row < 10; row++) {
                x.addRow(table, 100 * table + row, 0, 0);
            }
        }
        for (int table = 0; table < 4; table++) {
            x.setCell(table, 9, 2, table + 1);
            x.scan(table);
        }
        due.answer("run of the last table, full", x.run(3), 10);
        due.answer("its last cell", x.cell(9, 2), 4);
        for (int table = 0; table < 4; table++) {
            x.dropRow(table, 0);
        }
        for (int table = 0; table < 4; table++) {
            due.answer("run", x.run(table), 9);
            for (int row = 0; row < 9; row++) {
                due.answer("first column", x.cell(row, 0), 100 * table + row + 1);
                due.answer("last column", x.cell(row, 2), row == 8 ? table + 1 : 0);
            }
        }
    }
}
