/** Objects in the states that more than one test begins with, and numbers that lie outside of everything. */
final class Scenes {
    static final int LOW = Integer.MIN_VALUE;
    static final int HIGH = Integer.MAX_VALUE;

    /** The last four times 3, 4, 6 and 144 wrap to a small number: a place worked out from them would look good. */
    static final int[] FAR = {LOW, HIGH, -1000, 1000, 0x55555556, 0x40000001, 0x2AAAAAAB, 0x10000001};

    private Scenes() {
    }

    /**
     * Tables: 0 has 3 rows of 2, 1 has 2 rows of 3, 2 is full with rows of 1; there is no table 3. Nodes: 0 (2 wide),
     * 1 (3 wide), 3 (2 wide) and 5 (6 wide) are free, 2 and 4 are children; there is no node 6. The result is that of
     * node 3.
     */
    static QueryPushCompiler usual() {
        QueryPushCompiler x = new QueryPushCompiler(3);
        x.addRow(0, 4, 5, 0);
        x.addRow(0, 4, 5, 0);
        x.addRow(0, -6, 7, 0);
        x.defineTable(1, 3);
        x.addRow(1, 1, 2, 3);
        x.addRow(1, 4, 5, 6);
        x.defineTable(2, 1);
        for (int row = 0; row < 10; row++) {
            x.addRow(2, 100 + row, 0, 0);
        }
        x.scan(0);
        x.scan(1);
        x.scan(0);
        x.distinct(2);
        x.scan(1);
        x.project(4, 0_012012, 6);
        x.run(3);
        return x;
    }

    /** The usual one with six more nodes, 6 to 11, 1 wide and free. */
    static QueryPushCompiler fullPlan() {
        QueryPushCompiler x = usual();
        for (int node = 6; node < 12; node++) {
            x.scan(2);
        }
        return x;
    }

    /** The numbers next to the range, and those that are far from it. */
    static int[] outside(int from, int to) {
        int[] all = java.util.Arrays.copyOf(FAR, FAR.length + 2);
        all[FAR.length] = from - 1;
        all[FAR.length + 1] = to + 1;
        return all;
    }

    /** Tables 0 and 1 have so many rows, (0, index) each; nodes 0 and 1 scan them. */
    static QueryPushCompiler sized(int left, int right) {
        QueryPushCompiler x = new QueryPushCompiler(2);
        for (int row = 0; row < left; row++) {
            x.addRow(0, 0, row, 0);
        }
        for (int row = 0; row < right; row++) {
            x.addRow(1, 0, row, 0);
        }
        x.scan(0);
        x.scan(1);
        return x;
    }

    /** Table 0, so wide, has these rows, and node 0 scans it; table 1 is 2 wide and empty. */
    static QueryPushCompiler with(int width, int[]... rows) {
        QueryPushCompiler x = new QueryPushCompiler(2);
        x.defineTable(0, width);
        fill(x, 0, rows);
        x.scan(0);
        return x;
    }

    static void fill(QueryPushCompiler x, int table, int[]... rows) {
        for (int[] row : rows) {
            x.addRow(table, row[0], row.length > 1 ? row[1] : -77, row.length > 2 ? row[2] : -88);
        }
    }

    /** Node 4 has as many rows as can be: (0, 5) to (23, 5). There is a free node neither below nor beside it. */
    static QueryPushCompiler twentyFour() {
        QueryPushCompiler x = new QueryPushCompiler(4);
        for (int row = 0; row < 24; row++) {
            x.addRow(row / 10, row, 5, 0);
        }
        x.union(x.scan(0), x.scan(1));
        x.union(2, x.scan(2));
        return x;
    }

    static int[][] rows(int count, java.util.function.IntFunction<int[]> row) {
        int[][] all = new int[count][];
        for (int i = 0; i < count; i++) {
            all[i] = row.apply(i);
        }
        return all;
    }
}
