/** Many runs of made-up calls, always the same ones, on the class and on the model beside each other. */
public final class ModelTest {
    private static final int OBJECTS = 12000;
    /** What an object answers after this many calls is free. */
    private static final int CALLS = 512;
    private static final int CELLS_READ = 8;
    private static final int MOST_OF_A_STEP = 3 + CELLS_READ;
    /** A run, its result, of at most 24 rows of 6, with the cells around it, and the counts. */
    private static final int MOST_OF_THE_END = 1 + 26 * 8 + 2 + 14 + 6;
    private static final int[] ODD = {-1, 6, 7, 12, Integer.MIN_VALUE, Integer.MAX_VALUE};

    private static final Due due = new Due();
    private static long state = 20261115;
    private static int nodes;
    private static int calls;
    private static int refusedRuns;
    private static final int[] made = new int[19];
    private static int goodRuns;

    public static void main(String[] args) {
        for (int object = 0; object < OBJECTS; object++) {
            int tables = pick(4) == 0 ? pick(7) - 1 : 3;
            QueryPushCompiler x = new QueryPushCompiler(tables);
            Model m = new Model(tables);
            nodes = 0;
            calls = 0;
            while (calls + MOST_OF_A_STEP + MOST_OF_THE_END <= CALLS) {
                step(x, m, "object " + object + ", call " + calls);
            }
            due.answer("last run of object " + object, x.run(nodes - 1), m.run(nodes - 1));
            compareAll(x, m, "end of object " + object);
        }
        for (int kind = 6; kind <= 16; kind++) {
            due.isTrue("kind " + kind + " was made often: " + made[kind], made[kind] > 1000);
        }
        due.isTrue("many runs were good: " + goodRuns, goodRuns > 10000);
        due.isTrue("many runs were refused: " + refusedRuns, refusedRuns > 1000);
        due.end();
    }

    private static int pick(int below) {
        state = state * 6364136223846793005L + 1442695040888963407L;
        return (int) ((state >>> 33) % below);
    }

    /** Mostly one that is there, now and then one that isn't. */
    private static int some(int below) {
        return pick(25) == 0 ? ODD[pick(ODD.length)] : pick(below);
    }

    private static int table() {
        return some(3);
    }

    private static int node() {
        return pick(3) == 0 ? some(12) : Math.max(0, nodes - 1 - pick(2) * pick(3));
    }

    private static int value() {
        return pick(12) == 0 ? ODD[pick(ODD.length)] : pick(5) - 1;
    }

    private static int columns() {
        int columns = pick(20) == 0 ? -1 : 0;
        for (int i = 0; i < 6; i++) {
            columns = columns << 3 | pick(pick(4) == 0 ? 5 : 2);
        }
        return columns;
    }

    /** Scans, rows, pairs and runs come oftener than the rest: else few plans would grow together. */
    private static int kind() {
        int[] often = {2, 2, 2, 6, 6, 11, 11, 12, 17, 17};
        int kind = pick(2) == 0 ? often[pick(often.length)] : pick(19);
        return (kind == 0 || kind == 4) && pick(3) != 0 ? 2 : kind;
    }

    private static void step(QueryPushCompiler x, Model m, String where) {
        int kind = kind();
        int a = kind >= 7 && kind <= 17 ? node() : table();
        int b = kind == 11 || kind == 12 ? node() : kind == 10 ? columns() : some(3);
        int c = kind == 10 ? some(5) + 1 : kind == 11 ? columns() : kind == 9 ? some(4) : some(5);
        int d = kind == 9 || kind == 13 || kind == 8 ? some(3) : kind == 11 ? some(4) : value();
        String call = where + ", kind " + kind + " (" + a + ", " + b + ", " + c + ", " + d + ")";
        int got = call(x, kind, a, b, c, d);
        due.answer(call, got, call(m, kind, a, b, c, d));
        if (kind == 5) {
            nodes = 0;
        }
        if (kind >= 6 && kind <= 16 && got >= 0) {
            made[kind]++;
            nodes = got + 1;
        }
        if (kind == 17) {
            goodRuns += got > 0 ? 1 : 0;
            refusedRuns += got == QueryPushCompiler.TOO_BIG ? 1 : 0;
        }
        calls++;
        if (kind == 17) {
            compareSome(x, m, call);
        }
    }

    private static void compareSome(QueryPushCompiler x, Model m, String where) {
        compareSize(x, m, where);
        for (int i = 0; i < CELLS_READ; i++) {
            int row = pick(m.resultRows() + 2) - 1;
            int column = pick(m.resultWidth() + 2) - 1;
            due.answer(where + ", a cell", x.cell(row, column), m.cell(row, column));
        }
        calls += 2 + CELLS_READ;
    }

    private static void compareSize(QueryPushCompiler x, Model m, String where) {
        due.answer(where + ", resultRows", x.resultRows(), m.resultRows());
        due.answer(where + ", resultWidth", x.resultWidth(), m.resultWidth());
    }

    private static void compareAll(QueryPushCompiler x, Model m, String where) {
        compareSize(x, m, where);
        for (int row = -1; row <= m.resultRows(); row++) {
            for (int column = -1; column <= m.resultWidth(); column++) {
                due.answer(where + ", a cell", x.cell(row, column), m.cell(row, column));
            }
        }
        for (int node = -1; node <= 12; node++) {
            due.answer(where + ", width", x.width(node), m.width(node));
        }
        for (int table = -1; table <= 4; table++) {
            due.answer(where + ", tableRows", x.tableRows(table), m.tableRows(table));
        }
    }

    private static int call(QueryPushCompiler x, int kind, int a, int b, int c, int d) {
        switch (kind) {
            case 0: return x.defineTable(a, b + 1);
            case 1:
            case 2: return x.addRow(a, d, c, b);
            case 3: return x.setCell(a, c, b, d);
            case 4: return x.dropRow(a, b);
            case 5:
                x.clearPlan();
                return 0;
            case 6: return x.scan(a);
            case 7: return x.filter(a, b, c, d);
            case 8: return x.filterCols(a, b, c, d);
            case 9: return x.map(a, c, b, d);
            case 10: return x.project(a, b, c);
            case 11: return x.join(a, b, c, d);
            case 12: return x.union(a, b);
            case 13: return x.group(a, b, c, d);
            case 14: return x.distinct(a);
            case 15: return x.limit(a, d);
            case 16: return x.sort(a, b, c > 2);
            case 17: return x.run(a);
            default: return x.cell(b, c);
        }
    }

    private static int call(Model m, int kind, int a, int b, int c, int d) {
        switch (kind) {
            case 0: return m.defineTable(a, b + 1);
            case 1:
            case 2: return m.addRow(a, d, c, b);
            case 3: return m.setCell(a, c, b, d);
            case 4: return m.dropRow(a, b);
            case 5:
                m.clearPlan();
                return 0;
            case 6: return m.scan(a);
            case 7: return m.filter(a, b, c, d);
            case 8: return m.filterCols(a, b, c, d);
            case 9: return m.map(a, c, b, d);
            case 10: return m.project(a, b, c);
            case 11: return m.join(a, b, c, d);
            case 12: return m.union(a, b);
            case 13: return m.group(a, b, c, d);
            case 14: return m.distinct(a);
            case 15: return m.limit(a, d);
            case 16: return m.sort(a, b, c > 2);
            case 17: return m.run(a);
            default: return m.cell(b, c);
        }
    }
}
