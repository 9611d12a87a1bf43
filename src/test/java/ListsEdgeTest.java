/** The sentences of the document's "Terms" on lists, comparisons and wrapping that have an edge, each with a test. */
public final class ListsEdgeTest {
    private static final int LOW = Scenes.LOW;
    private static final int HIGH = Scenes.HIGH;
    private static final int ADD = QueryPushCompiler.ADD;
    private static final int SUB = QueryPushCompiler.SUB;
    private static final int MUL = QueryPushCompiler.MUL;
    private static final int LEAST = QueryPushCompiler.LEAST;
    private static final int GREATEST = QueryPushCompiler.GREATEST;
    private static final int INNER = QueryPushCompiler.INNER;
    private static final int SEMI = QueryPushCompiler.SEMI;
    private static final int ANTI = QueryPushCompiler.ANTI;
    private static final int OUTER = QueryPushCompiler.OUTER;
    private static final int COUNT = QueryPushCompiler.COUNT;
    private static final int SUM = QueryPushCompiler.SUM;
    private static final int MIN = QueryPushCompiler.MIN;
    private static final int MAX = QueryPushCompiler.MAX;
    private static final Due due = new Due();

    public static void main(String[] args) {
        equalRowsStay();
        theLeastAndTheGreatestWidth();
        theListIsThatOfTheRun();
        scanOfNoneAndOfAll();
        filterOfNoneAndOfAll();
        filterColsOfNoneAndOfAll();
        comparisonsAtTheEnds();
        mapKeepsEveryRow();
        everythingWraps();
        addWraps();
        subWraps();
        mulWraps();
        leastIsSigned();
        greatestIsSigned();
        projectKeepsEveryRow();
        innerMatchesManyOrNone();
        semiTakesARowOnce();
        antiTakesARowWithoutAMatch();
        outerFillsWithZeros();
        joinKeysAtTheEnds();
        joinWidths();
        unionWithAnEmptySide();
        groupOfNoneOneAndMany();
        groupKeepsTheOrderOfFirstAppearance();
        countOfUpToTwentyFour();
        sumWraps();
        minAtTheEnds();
        maxAtTheEnds();
        distinctOfOneColumnThatDiffers();
        distinctOfNoneAndOfEqualRows();
        limitAroundTheLength();
        sortOfNoneAndOfOne();
        sortOfTheEnds();
        sortKeepsEqualRowsInOrder();
        due.end();
    }

    /** The rows that op makes of these pairs, the answer behind each pair. */
    private static void maps(int op, int[]... rows) {
        QueryPushCompiler x = Scenes.with(2, rows);
        x.map(0, op, 0, 1);
        due.list("map " + op, x, 1, 3, rows);
    }

    private static void equalRowsStay() {
        due.sentence("Terms", "order matters, equal rows may occur more than once");
        int[][] rows = {{2, 2}, {1, 1}, {2, 2}, {2, 2}, {1, 1}};
        QueryPushCompiler x = Scenes.with(2, rows);
        x.filter(0, 0, 5, 0);
        due.list("a filter of equal rows", x, 1, 2, rows);
        x.project(1, 010, 2);
        due.list("a project of equal rows", x, 2, 2, rows);
        x.limit(2, 4);
        due.list("a limit of equal rows", x, 3, 2, java.util.Arrays.copyOf(rows, 4));
    }

    private static void theLeastAndTheGreatestWidth() {
        due.sentence("Terms", "its WIDTH (1 to 6)");
        QueryPushCompiler x = Scenes.with(1, Due.row(7), Due.row(-7));
        due.list("1 wide", x, 0, 1, Due.row(7), Due.row(-7));
        for (int width = 2; width <= 6; width++) {
            x.map(width - 2, ADD, width - 2, 0);
        }
        due.list("6 wide", x, 5, 6, Due.row(7, 14, 21, 28, 35, 42), Due.row(-7, -14, -21, -28, -35, -42));
        x.project(5, 5, 1);
        due.list("1 of 6", x, 6, 1, Due.row(42), Due.row(-42));
    }

    private static void theListIsThatOfTheRun() {
        due.sentence("Terms", "S is the list of its child, in S's order, at the time of the run");
        QueryPushCompiler x = Scenes.with(1);
        x.sort(0, 0, true);
        due.list("no rows yet", x, 1, 1);
        x.addRow(0, 1, 0, 0);
        x.addRow(0, 2, 0, 0);
        due.list("two rows", x, 1, 1, Due.row(2), Due.row(1));
        x.setCell(0, 1, 0, 0);
        due.list("another value", x, 1, 1, Due.row(1), Due.row(0));
        x.dropRow(0, 0);
        x.dropRow(0, 0);
        due.list("none again", x, 1, 1);
    }

    private static void scanOfNoneAndOfAll() {
        due.sentence("Terms", "the table's rows in order; width: the table's width.");
        for (int width = 1; width <= 3; width++) {
            due.list("an empty table", Scenes.with(width), 0, width);
            int columns = width;
            int[][] rows = Scenes.rows(10, i -> java.util.Arrays.copyOf(Due.row(-i, i * i, 7), columns));
            due.list("a full table", Scenes.with(width, rows), 0, width, rows);
        }
    }

    private static void filterOfNoneAndOfAll() {
        due.sentence("Terms", "the rows of S whose column fulfils the comparison with the constant, in order");
        QueryPushCompiler empty = Scenes.with(2);
        empty.filter(0, 0, 0, 0);
        due.list("of an empty list", empty, 1, 2);
        QueryPushCompiler x = Scenes.twentyFour();
        x.filter(4, 0, 3, 23);
        due.list("all of 24", x, 5, 2, Scenes.rows(24, i -> Due.row(i, 5)));
        x.filter(5, 0, 5, 23);
        due.list("the last of 24", x, 6, 2, Due.row(23, 5));
        x.filter(6, 1, 1, 5);
        due.list("none", x, 7, 2);
        x.filter(7, 1, 1, 5);
        due.list("none of none", x, 8, 2);
    }

    private static void filterColsOfNoneAndOfAll() {
        due.sentence("Terms", "the rows of S whose column A fulfils the comparison with its column B, in order");
        QueryPushCompiler empty = Scenes.with(2);
        empty.filterCols(0, 0, 0, 1);
        due.list("of an empty list", empty, 1, 2);
        QueryPushCompiler x = Scenes.twentyFour();
        x.filterCols(4, 0, 0, 0);
        due.list("all of 24", x, 5, 2, Scenes.rows(24, i -> Due.row(i, 5)));
        x.filterCols(5, 0, 3, 1);
        due.list("up to 5", x, 6, 2, Scenes.rows(6, i -> Due.row(i, 5)));
        x.filterCols(6, 1, 4, 0);
        due.list("below 5", x, 7, 2, Scenes.rows(5, i -> Due.row(i, 5)));
        x.filterCols(7, 0, 0, 1);
        due.list("none", x, 8, 2);
    }

    /** For every pair of these values, all six comparisons, by a constant and by a column. */
    private static void comparisonsAtTheEnds() {
        due.sentence("Terms", "0 equal, 1 not equal, 2 less, 3 less or equal, 4 greater, 5 greater or equal (signed)");
        int[] rising = {LOW, LOW + 1, -1, 0, 1, HIGH - 1, HIGH};
        for (int a = 0; a < rising.length; a++) {
            for (int b = 0; b < rising.length; b++) {
                boolean[] holds = {a == b, a != b, a < b, a <= b, a > b, a >= b};
                for (int cmp = 0; cmp < 6; cmp++) {
                    QueryPushCompiler x = Scenes.with(2, Due.row(rising[a], rising[b]));
                    x.scan(0);
                    x.filter(0, 0, cmp, rising[b]);
                    x.filterCols(1, 0, cmp, 1);
                    String of = rising[a] + ", " + cmp + ", " + rising[b];
                    due.answer("filter " + of, x.run(2), holds[cmp] ? 1 : 0);
                    due.answer("filterCols " + of, x.run(3), holds[cmp] ? 1 : 0);
                }
            }
        }
    }

    private static void mapKeepsEveryRow() {
        due.sentence("Terms", "every row of S with one more column behind its last");
        QueryPushCompiler empty = Scenes.with(2);
        empty.map(0, ADD, 0, 1);
        due.list("of an empty list", empty, 1, 3);
        QueryPushCompiler x = Scenes.twentyFour();
        x.map(4, MUL, 0, 1);
        due.list("of 24", x, 5, 3, Scenes.rows(24, i -> Due.row(i, 5, 5 * i)));
        x.project(5, 0_22222, 5);
        x.map(6, SUB, 4, 4);
        due.list("the sixth column", x, 7, 6, Scenes.rows(24, i -> Due.row(5 * i, 5 * i, 5 * i, 5 * i, 5 * i, 0)));
    }

    private static void everythingWraps() {
        due.sentence("Terms", "All values are ints; sums, differences and products wrap as Java's int does.");
        QueryPushCompiler x = Scenes.with(2, Due.row(HIGH, 1), Due.row(LOW, -1));
        x.map(0, ADD, 0, 1);
        x.map(1, SUB, 2, 1);
        x.map(2, MUL, 2, 0);
        due.list("wrapped values are worked with as they are", x, 3, 5, Due.row(HIGH, 1, LOW, HIGH, LOW),
                Due.row(LOW, -1, HIGH, LOW, LOW));
        x.group(3, 4, SUM, 4);
        due.list("and summed as they are", x, 4, 2, Due.row(LOW, 0));
    }

    private static void addWraps() {
        due.sentence("Terms", "ADD A + B");
        maps(ADD, Due.row(HIGH, 1, LOW), Due.row(1, HIGH, LOW), Due.row(HIGH, HIGH, -2), Due.row(LOW, -1, HIGH),
                Due.row(LOW, LOW, 0), Due.row(LOW, HIGH, -1), Due.row(HIGH, 0, HIGH), Due.row(LOW, 0, LOW));
    }

    private static void subWraps() {
        due.sentence("Terms", "SUB A - B");
        maps(SUB, Due.row(LOW, 1, HIGH), Due.row(HIGH, -1, LOW), Due.row(0, LOW, LOW), Due.row(-1, LOW, HIGH),
                Due.row(LOW, HIGH, 1), Due.row(HIGH, LOW, -1), Due.row(LOW, LOW, 0), Due.row(0, HIGH, -HIGH));
    }

    private static void mulWraps() {
        due.sentence("Terms", "MUL A * B");
        maps(MUL, Due.row(LOW, -1, LOW), Due.row(-1, LOW, LOW), Due.row(HIGH, 2, -2), Due.row(HIGH, HIGH, 1),
                Due.row(LOW, LOW, 0), Due.row(LOW, HIGH, LOW), Due.row(65536, 65536, 0), Due.row(65536, 32768, LOW),
                Due.row(46340, 46340, 2147395600), Due.row(46341, 46341, -2147479015));
    }

    private static void leastIsSigned() {
        due.sentence("Terms", "LEAST the smaller of A and B");
        maps(LEAST, Due.row(LOW, HIGH, LOW), Due.row(HIGH, LOW, LOW), Due.row(-1, 0, -1), Due.row(0, -1, -1),
                Due.row(LOW, LOW, LOW), Due.row(HIGH, HIGH, HIGH), Due.row(LOW, 1, LOW), Due.row(1, 2, 1));
    }

    private static void greatestIsSigned() {
        due.sentence("Terms", "GREATEST the larger (signed)");
        maps(GREATEST, Due.row(LOW, HIGH, HIGH), Due.row(HIGH, LOW, HIGH), Due.row(-1, 0, 0), Due.row(0, -1, 0),
                Due.row(LOW, LOW, LOW), Due.row(HIGH, HIGH, HIGH), Due.row(LOW, 1, 1), Due.row(1, 2, 2));
    }

    private static void projectKeepsEveryRow() {
        due.sentence("Terms", "every row of S with the chosen columns only, in the chosen order");
        QueryPushCompiler empty = Scenes.with(2);
        empty.project(0, 1, 6);
        due.list("of an empty list", empty, 1, 6);
        QueryPushCompiler x = Scenes.twentyFour();
        x.project(4, 0_010101, 6);
        due.list("6 of 2", x, 5, 6, Scenes.rows(24, i -> Due.row(5, i, 5, i, 5, i)));
        x.project(5, 0_012345, 6);
        due.list("turned round", x, 6, 6, Scenes.rows(24, i -> Due.row(i, 5, i, 5, i, 5)));
        x.project(6, 4, 1);
        due.list("1 of 6", x, 7, 1, Scenes.rows(24, i -> Due.row(i)));
    }

    /** Node 2 joins table 0 on its column 0 with table 1 on its column 0. */
    private static QueryPushCompiler joined(int kind, int[][] left, int[][] right) {
        QueryPushCompiler x = Scenes.with(2, left);
        Scenes.fill(x, 1, right);
        x.scan(1);
        x.join(0, 1, 0, kind);
        return x;
    }

    private static final int[][] NONE = {};
    private static final int[][] ZEROS = {{0, 1}, {0, 2}};
    private static final int[][] MIXED = {{0, 3}, {4, 4}, {0, 5}};

    private static void innerMatchesManyOrNone() {
        due.sentence("Terms", "for every row of Q in order whose key column equals the left row's key column");
        due.list("all match", joined(INNER, ZEROS, MIXED), 2, 4, Due.row(0, 1, 0, 3), Due.row(0, 1, 0, 5),
                Due.row(0, 2, 0, 3), Due.row(0, 2, 0, 5));
        due.list("one doesn't", joined(INNER, MIXED, ZEROS), 2, 4, Due.row(0, 3, 0, 1), Due.row(0, 3, 0, 2),
                Due.row(0, 5, 0, 1), Due.row(0, 5, 0, 2));
        due.list("none does", joined(INNER, ZEROS, new int[][] {{1, 0}}), 2, 4);
        due.list("no left", joined(INNER, NONE, MIXED), 2, 4);
        due.list("no right", joined(INNER, MIXED, NONE), 2, 4);
        due.list("neither", joined(INNER, NONE, NONE), 2, 4);
    }

    private static void semiTakesARowOnce() {
        due.sentence("Terms", "the left row, once, if at least one row of Q has an equal key column.");
        due.list("two match", joined(SEMI, ZEROS, MIXED), 2, 2, ZEROS);
        due.list("one doesn't", joined(SEMI, MIXED, ZEROS), 2, 2, Due.row(0, 3), Due.row(0, 5));
        due.list("the last one matches", joined(SEMI, new int[][] {{4, 9}}, new int[][] {{1, 1}, {4, 4}}), 2, 2,
                Due.row(4, 9));
        due.list("none does", joined(SEMI, ZEROS, new int[][] {{1, 0}}), 2, 2);
        due.list("no left", joined(SEMI, NONE, MIXED), 2, 2);
        due.list("no right", joined(SEMI, MIXED, NONE), 2, 2);
        due.list("neither", joined(SEMI, NONE, NONE), 2, 2);
    }

    private static void antiTakesARowWithoutAMatch() {
        due.sentence("Terms", "the left row, if no row of Q has.");
        due.list("all match", joined(ANTI, ZEROS, MIXED), 2, 2);
        due.list("one doesn't", joined(ANTI, MIXED, ZEROS), 2, 2, Due.row(4, 4));
        due.list("the last one matches", joined(ANTI, new int[][] {{4, 9}}, new int[][] {{1, 1}, {4, 4}}), 2, 2);
        due.list("none does", joined(ANTI, ZEROS, new int[][] {{1, 0}}), 2, 2, ZEROS);
        due.list("no left", joined(ANTI, NONE, MIXED), 2, 2);
        due.list("no right", joined(ANTI, MIXED, NONE), 2, 2, MIXED);
        due.list("neither", joined(ANTI, NONE, NONE), 2, 2);
    }

    private static void outerFillsWithZeros() {
        due.sentence("Terms", "as INNER; but if no row of Q matches, the left row's columns followed by zeros.");
        due.list("all match", joined(OUTER, ZEROS, MIXED), 2, 4, Due.row(0, 1, 0, 3), Due.row(0, 1, 0, 5),
                Due.row(0, 2, 0, 3), Due.row(0, 2, 0, 5));
        due.list("one doesn't", joined(OUTER, MIXED, ZEROS), 2, 4, Due.row(0, 3, 0, 1), Due.row(0, 3, 0, 2),
                Due.row(4, 4, 0, 0), Due.row(0, 5, 0, 1), Due.row(0, 5, 0, 2));
        due.list("none does", joined(OUTER, ZEROS, new int[][] {{1, 7}}), 2, 4, Due.row(0, 1, 0, 0),
                Due.row(0, 2, 0, 0));
        due.list("no left", joined(OUTER, NONE, MIXED), 2, 4);
        due.list("no right", joined(OUTER, ZEROS, NONE), 2, 4, Due.row(0, 1, 0, 0), Due.row(0, 2, 0, 0));
        due.list("neither", joined(OUTER, NONE, NONE), 2, 4);
        QueryPushCompiler x = joined(OUTER, ZEROS, new int[][] {{0, 9}});
        due.list("both match now", x, 2, 4, Due.row(0, 1, 0, 9), Due.row(0, 2, 0, 9));
        x.setCell(0, 1, 0, -1);
        due.list("one matches no longer", x, 2, 4, Due.row(0, 1, 0, 9), Due.row(-1, 2, 0, 0));
        x.setCell(1, 0, 0, 8);
        due.list("neither does", x, 2, 4, Due.row(0, 1, 0, 0), Due.row(-1, 2, 0, 0));
    }

    private static void joinKeysAtTheEnds() {
        due.sentence("Terms", "L the left child's list, Q the right child's. For every row of L in order");
        int[][] ends = {{LOW, 1}, {HIGH, 2}, {-1, 3}};
        int[][] others = {{HIGH, 4}, {LOW, 5}, {LOW + 1, 6}};
        due.list("inner", joined(INNER, ends, others), 2, 4, Due.row(LOW, 1, LOW, 5), Due.row(HIGH, 2, HIGH, 4));
        due.list("semi", joined(SEMI, ends, others), 2, 2, Due.row(LOW, 1), Due.row(HIGH, 2));
        due.list("anti", joined(ANTI, ends, others), 2, 2, Due.row(-1, 3));
        due.list("outer", joined(OUTER, ends, others), 2, 4, Due.row(LOW, 1, LOW, 5), Due.row(HIGH, 2, HIGH, 4),
                Due.row(-1, 3, 0, 0));
    }

    /** Six columns in all, five on one side and one on the other. */
    private static void joinWidths() {
        due.sentence("Terms", "Width: INNER and OUTER the sum of both widths; SEMI and ANTI the left width.");
        for (int kind = 0; kind < 4; kind++) {
            for (int left : new int[] {1, 5}) {
                QueryPushCompiler x = Scenes.with(1, Due.row(3));
                x.project(0, 0, left);
                x.scan(0);
                x.project(2, 0, 6 - left);
                x.join(1, 3, 0, kind);
                int width = kind == INNER || kind == OUTER ? 6 : left;
                int[] row = java.util.Arrays.copyOf(Due.row(3, 3, 3, 3, 3, 3), width);
                due.list("kind " + kind + ", left " + left, x, 4, width, kind == ANTI ? NONE : new int[][] {row});
            }
        }
    }

    private static void unionWithAnEmptySide() {
        due.sentence("Terms", "the rows of the left child in order, then those of the right child in order.");
        int[][][] sides = {NONE, ZEROS, MIXED};
        for (int[][] left : sides) {
            for (int[][] right : sides) {
                QueryPushCompiler x = Scenes.with(2, left);
                Scenes.fill(x, 1, right);
                x.scan(1);
                x.union(0, 1);
                int count = left.length + right.length;
                due.list("union", x, 2, 2,
                        Scenes.rows(count, i -> i < left.length ? left[i] : right[i - left.length]));
            }
        }
    }

    private static void groupOfNoneOneAndMany() {
        due.sentence("Terms", "one row (key, value) for every different value of the key column in S");
        for (int aggregate = COUNT; aggregate <= MAX; aggregate++) {
            QueryPushCompiler empty = Scenes.with(2);
            empty.group(0, 0, aggregate, 1);
            due.list("of an empty list", empty, 1, 2);
            empty.addRow(0, 6, 6, 6);
            due.list("of one row", empty, 1, 2, Due.row(6, aggregate == COUNT ? 1 : 6));
            QueryPushCompiler x = Scenes.twentyFour();
            x.group(4, 0, aggregate, 1);
            int value = aggregate == COUNT ? 1 : 5;
            due.list("24 keys", x, 5, 2, Scenes.rows(24, i -> Due.row(i, value)));
        }
    }

    private static void groupKeepsTheOrderOfFirstAppearance() {
        due.sentence("Terms", "in the order of first appearance in S");
        QueryPushCompiler x = Scenes.with(2, Due.row(HIGH, 1), Due.row(0, 2), Due.row(LOW, 3), Due.row(0, 4),
                Due.row(HIGH, 5), Due.row(-1, 6), Due.row(LOW, 7));
        x.group(0, 0, SUM, 1);
        due.list("as in S", x, 1, 2, Due.row(HIGH, 6), Due.row(0, 6), Due.row(LOW, 10), Due.row(-1, 6));
    }

    private static void countOfUpToTwentyFour() {
        due.sentence("Terms", "COUNT how many");
        QueryPushCompiler x = Scenes.twentyFour();
        x.group(4, 1, COUNT, 0);
        due.list("24 of one key", x, 5, 2, Due.row(5, 24));
        QueryPushCompiler y = Scenes.with(1, Due.row(LOW), Due.row(LOW), Due.row(HIGH));
        y.group(0, 0, COUNT, 0);
        due.list("values aren't looked at", y, 1, 2, Due.row(LOW, 2), Due.row(HIGH, 1));
    }

    /** Node 1 has the aggregate of these values under one key. */
    private static void aggregates(int aggregate, int want, int... values) {
        QueryPushCompiler x = Scenes.with(2, Scenes.rows(values.length, i -> Due.row(9, values[i])));
        x.group(0, 0, aggregate, 1);
        due.list("aggregate " + aggregate + " of " + java.util.Arrays.toString(values), x, 1, 2, Due.row(9, want));
    }

    private static void sumWraps() {
        due.sentence("Terms", "SUM the sum of the value column (wrapping)");
        aggregates(SUM, LOW, HIGH, 1);
        aggregates(SUM, HIGH, LOW, -1);
        aggregates(SUM, 0, LOW, LOW);
        aggregates(SUM, HIGH - 2, HIGH, HIGH, HIGH);
        aggregates(SUM, -1, HIGH, HIGH, LOW, LOW, 1);
        aggregates(SUM, -10, HIGH, HIGH, HIGH, HIGH, HIGH, HIGH, HIGH, HIGH, HIGH, HIGH);
        aggregates(SUM, LOW, LOW);
        aggregates(SUM, 0, 0, 0);
    }

    private static void minAtTheEnds() {
        due.sentence("Terms", "MIN its least");
        aggregates(MIN, LOW, HIGH, 0, LOW);
        aggregates(MIN, LOW, LOW, HIGH);
        aggregates(MIN, HIGH, HIGH, HIGH);
        aggregates(MIN, 1, 2, 1, 3);
        aggregates(MIN, -1, 0, -1);
    }

    private static void maxAtTheEnds() {
        due.sentence("Terms", "MAX its greatest");
        aggregates(MAX, HIGH, LOW, 0, HIGH);
        aggregates(MAX, HIGH, HIGH, LOW);
        aggregates(MAX, LOW, LOW, LOW);
        aggregates(MAX, 3, 2, 1, 3);
        aggregates(MAX, -1, LOW, -1);
    }

    /** Rows of 6 that differ in one column, whichever it is. */
    private static void distinctOfOneColumnThatDiffers() {
        due.sentence("Terms", "the rows of S that differ in at least one column from every row before them in S");
        for (int column = 0; column < 6; column++) {
            QueryPushCompiler x = Scenes.with(2, Due.row(0, 1), Due.row(0, 2), Due.row(0, 1), Due.row(0, 2));
            x.project(0, 1 << 3 * column, 6);
            x.distinct(1);
            int place = column;
            due.list("column " + column, x, 2, 6, Scenes.rows(2, i -> {
                int[] row = new int[6];
                row[place] = i + 1;
                return row;
            }));
        }
    }

    private static void distinctOfNoneAndOfEqualRows() {
        due.sentence("Terms", "differ in at least one column from every row before them");
        QueryPushCompiler empty = Scenes.with(2);
        empty.distinct(0);
        due.list("of an empty list", empty, 1, 2);
        QueryPushCompiler x = Scenes.twentyFour();
        x.distinct(4);
        due.list("24 that differ", x, 5, 2, Scenes.rows(24, i -> Due.row(i, 5)));
        x.project(5, 1, 1);
        x.distinct(6);
        due.list("24 that don't", x, 7, 1, Due.row(5));
        QueryPushCompiler zeros = Scenes.with(2, Due.row(0, 0), Due.row(0, 0));
        zeros.distinct(0);
        due.list("a first row of zeros", zeros, 1, 2, Due.row(0, 0));
    }

    private static void limitAroundTheLength() {
        due.sentence("Terms", "the first n rows of S (all if there are fewer)");
        for (int n : new int[] {0, 1, 23, 24, 25, HIGH}) {
            QueryPushCompiler x = Scenes.twentyFour();
            x.limit(4, n);
            due.list("limit " + n, x, 5, 2, Scenes.rows(Math.min(n, 24), i -> Due.row(i, 5)));
        }
        QueryPushCompiler empty = Scenes.with(2);
        empty.limit(0, 3);
        due.list("of an empty list", empty, 1, 2);
        QueryPushCompiler x = Scenes.twentyFour();
        x.filter(4, 0, 2, 2);
        x.limit(5, 3);
        due.list("of fewer rows than their bound", x, 6, 2, Due.row(0, 5), Due.row(1, 5));
    }

    private static void sortOfNoneAndOfOne() {
        due.sentence("Terms", "the rows of S ordered by one column, ascending or descending");
        for (boolean descending : new boolean[] {false, true}) {
            QueryPushCompiler x = Scenes.with(2);
            x.sort(0, 1, descending);
            due.list("of an empty list", x, 1, 2);
            x.addRow(0, 1, 2, 0);
            due.list("of one row", x, 1, 2, Due.row(1, 2));
            QueryPushCompiler y = Scenes.twentyFour();
            y.sort(4, 0, descending);
            due.list("of 24", y, 5, 2, Scenes.rows(24, i -> Due.row(descending ? 23 - i : i, 5)));
        }
    }

    /** Values whose differences wrap. */
    private static void sortOfTheEnds() {
        due.sentence("Terms", "ascending or descending (signed)");
        int[] rising = {LOW, LOW + 1, -2, -1, 0, 1, 2, HIGH - 1, HIGH};
        QueryPushCompiler x = Scenes.with(1, Scenes.rows(9, i -> Due.row(rising[i * 4 % 9])));
        x.sort(0, 0, false);
        due.list("ascending", x, 1, 1, Scenes.rows(9, i -> Due.row(rising[i])));
        x.sort(1, 0, true);
        due.list("descending", x, 2, 1, Scenes.rows(9, i -> Due.row(rising[8 - i])));
        x.sort(2, 0, false);
        due.list("ascending again", x, 3, 1, Scenes.rows(9, i -> Due.row(rising[i])));
    }

    private static void sortKeepsEqualRowsInOrder() {
        due.sentence("Terms", "rows with equal values in that column stay in S's order, both ascending and descending");
        for (boolean descending : new boolean[] {false, true}) {
            QueryPushCompiler equal = Scenes.twentyFour();
            equal.sort(4, 1, descending);
            due.list("24 equal ones", equal, 5, 2, Scenes.rows(24, i -> Due.row(i, 5)));
            QueryPushCompiler x = Scenes.with(2, Due.row(1, 1), Due.row(0, 2), Due.row(1, 3), Due.row(0, 4));
            x.sort(0, 0, descending);
            int[][] ones = {{1, 1}, {1, 3}};
            int[][] zeros = {{0, 2}, {0, 4}};
            int[][] first = descending ? ones : zeros;
            int[][] last = descending ? zeros : ones;
            due.list("two of each", x, 1, 2, first[0], first[1], last[0], last[1]);
        }
    }
}
