public final class QueryPushCompiler {
    public static final int BAD_TABLE = -1;
    public static final int BAD_WIDTH = -2;
    public static final int BAD_COLUMN = -3;
    public static final int BAD_NODE = -4;
    public static final int CHILD_USED = -5;
    public static final int BAD_KIND = -6;
    public static final int TOO_WIDE = -7;
    public static final int PLAN_FULL = -8;
    public static final int TABLE_FULL = -9;
    public static final int TOO_BIG = -10;
    public static final int IN_USE = -11;
    public static final int BAD_ROW = -12;
    public static final int ADD = 0;
    public static final int SUB = 1;
    public static final int MUL = 2;
    public static final int LEAST = 3;
    public static final int GREATEST = 4;
    public static final int INNER = 0;
    public static final int SEMI = 1;
    public static final int ANTI = 2;
    public static final int OUTER = 3;
    public static final int COUNT = 0;
    public static final int SUM = 1;
    public static final int MIN = 2;
    public static final int MAX = 3;

    private static final int OK = 0;
    private static final int NO_CHILD = -1;

    private static final int EQUAL = 0;
    private static final int NOT_EQUAL = 1;
    private static final int LESS = 2;
    private static final int LESS_OR_EQUAL = 3;
    private static final int GREATER = 4;
    private static final int GREATER_OR_EQUAL = 5;

    private static final int SCAN_NODE = 0;
    private static final int FILTER_NODE = 1;
    private static final int FILTER_COLS_NODE = 2;
    private static final int MAP_NODE = 3;
    private static final int PROJECT_NODE = 4;
    private static final int JOIN_NODE = 5;
    private static final int UNION_NODE = 6;
    private static final int GROUP_NODE = 7;
    private static final int DISTINCT_NODE = 8;
    private static final int LIMIT_NODE = 9;
    private static final int SORT_NODE = 10;

    private static final int MAX_TABLES = 4;
    private static final int MAX_TABLE_ROWS = 10;
    private static final int MAX_TABLE_WIDTH = 3;
    private static final int NEW_TABLE_WIDTH = 2;
    private static final int MAX_NODES = 12;
    private static final int MAX_LIST_ROWS = 24;
    private static final int MAX_WIDTH = 6;
    private static final int GROUP_WIDTH = 2;

    private static final int TABLE_CELLS = 120; // MAX_TABLES * MAX_TABLE_ROWS * MAX_TABLE_WIDTH
    private static final int LIST_CELLS = 1728; // MAX_NODES * MAX_LIST_ROWS * MAX_WIDTH
    private static final int RESULT_CELLS = 144; // MAX_LIST_ROWS * MAX_WIDTH

    private final int tableCount;
    private final int[] tableWidth = new int[MAX_TABLES];
    private final int[] tableHeight = new int[MAX_TABLES];
    private final int[] tableCells = new int[TABLE_CELLS];

    private int nodeCount = 0;
    private final int[] nodeKind = new int[MAX_NODES];
    private final int[] nodeLeft = new int[MAX_NODES];
    private final int[] nodeRight = new int[MAX_NODES];
    private final int[] nodeWidth = new int[MAX_NODES];
    private final boolean[] nodeIsChild = new boolean[MAX_NODES];

    // What a node was made with. Which of these a node uses depends on its kind; the others hold leftovers.
    private final int[] nodeColumnA = new int[MAX_NODES];
    private final int[] nodeColumnB = new int[MAX_NODES];
    private final int[] nodeChoice = new int[MAX_NODES];
    private final int[] nodeNumber = new int[MAX_NODES];

    // Scratch of one run: nothing in it is read by a later call.
    private final int[] bound = new int[MAX_NODES];
    private final int[] listHeight = new int[MAX_NODES];
    private final int[] listCells = new int[LIST_CELLS];

    private int resultHeight = 0;
    private int resultColumns = 0;
    private final int[] resultCells = new int[RESULT_CELLS];

    public QueryPushCompiler(int tables) {
        int atLeastOne = tables < 1 ? 1 : tables;
        tableCount = atLeastOne > MAX_TABLES ? MAX_TABLES : atLeastOne;
        for (int table = 0; table < MAX_TABLES; table++) {
            tableWidth[table] = NEW_TABLE_WIDTH;
        }
    }

    public int defineTable(int table, int width) {
        if (!hasTable(table)) {
            return BAD_TABLE;
        }
        if (width < 1 || width > MAX_TABLE_WIDTH) {
            return BAD_WIDTH;
        }
        if (isScanned(table)) {
            return IN_USE;
        }
        tableWidth[table] = width;
        tableHeight[table] = 0;
        return OK;
    }

    public int addRow(int table, int a, int b, int c) {
        if (!hasTable(table)) {
            return BAD_TABLE;
        }
        int row = tableHeight[table];
        if (row >= MAX_TABLE_ROWS) {
            return TABLE_FULL;
        }
        // Cells behind the table's width are never read: widening a table drops its rows.
        int start = tableRowStart(table, row);
        tableCells[start] = a;
        tableCells[start + 1] = b;
        tableCells[start + 2] = c;
        tableHeight[table] = row + 1;
        return row;
    }

    public int setCell(int table, int row, int column, int value) {
        if (!hasTable(table)) {
            return BAD_TABLE;
        }
        if (row < 0 || row >= tableHeight[table]) {
            return BAD_ROW;
        }
        if (column < 0 || column >= tableWidth[table]) {
            return BAD_COLUMN;
        }
        int start = tableRowStart(table, row);
        tableCells[start + column] = value;
        return OK;
    }

    public int dropRow(int table, int row) {
        if (!hasTable(table)) {
            return BAD_TABLE;
        }
        if (row < 0 || row >= tableHeight[table]) {
            return BAD_ROW;
        }
        int left = tableHeight[table] - 1;
        int from = tableRowStart(table, row);
        int to = tableRowStart(table, left);
        for (int place = from; place < to; place++) {
            tableCells[place] = tableCells[place + MAX_TABLE_WIDTH];
        }
        tableHeight[table] = left;
        return left;
    }

    public void clearPlan() {
        nodeCount = 0;
    }

    public int scan(int table) {
        if (planIsFull()) {
            return PLAN_FULL;
        }
        if (!hasTable(table)) {
            return BAD_TABLE;
        }
        int node = addNode(SCAN_NODE, NO_CHILD, NO_CHILD, tableWidth[table]);
        nodeNumber[node] = table;
        return node;
    }

    public int filter(int child, int column, int cmp, int value) {
        int refusal = refusalOfChild(child);
        if (refusal != OK) {
            return refusal;
        }
        if (!hasColumn(child, column)) {
            return BAD_COLUMN;
        }
        if (cmp < EQUAL || cmp > GREATER_OR_EQUAL) {
            return BAD_KIND;
        }
        int node = addNode(FILTER_NODE, child, NO_CHILD, nodeWidth[child]);
        nodeColumnA[node] = column;
        nodeChoice[node] = cmp;
        nodeNumber[node] = value;
        return node;
    }

    public int filterCols(int child, int columnA, int cmp, int columnB) {
        int refusal = refusalOfChild(child);
        if (refusal != OK) {
            return refusal;
        }
        if (!hasColumn(child, columnA) || !hasColumn(child, columnB)) {
            return BAD_COLUMN;
        }
        if (cmp < EQUAL || cmp > GREATER_OR_EQUAL) {
            return BAD_KIND;
        }
        int node = addNode(FILTER_COLS_NODE, child, NO_CHILD, nodeWidth[child]);
        nodeColumnA[node] = columnA;
        nodeChoice[node] = cmp;
        nodeColumnB[node] = columnB;
        return node;
    }

    public int map(int child, int op, int columnA, int columnB) {
        int refusal = refusalOfChild(child);
        if (refusal != OK) {
            return refusal;
        }
        if (op < ADD || op > GREATEST) {
            return BAD_KIND;
        }
        if (!hasColumn(child, columnA) || !hasColumn(child, columnB)) {
            return BAD_COLUMN;
        }
        if (nodeWidth[child] >= MAX_WIDTH) {
            return TOO_WIDE;
        }
        int node = addNode(MAP_NODE, child, NO_CHILD, nodeWidth[child] + 1);
        nodeChoice[node] = op;
        nodeColumnA[node] = columnA;
        nodeColumnB[node] = columnB;
        return node;
    }

    public int project(int child, int columns, int n) {
        int refusal = refusalOfChild(child);
        if (refusal != OK) {
            return refusal;
        }
        if (n < 1 || n > MAX_WIDTH) {
            return BAD_WIDTH;
        }
        for (int i = 0; i < n; i++) {
            int column = chosenColumn(columns, i);
            if (!hasColumn(child, column)) {
                return BAD_COLUMN;
            }
        }
        int node = addNode(PROJECT_NODE, child, NO_CHILD, n);
        nodeNumber[node] = columns;
        return node;
    }

    public int join(int left, int right, int keys, int kind) {
        int refusal = refusalOfPair(left, right);
        if (refusal != OK) {
            return refusal;
        }
        if (kind < INNER || kind > OUTER) {
            return BAD_KIND;
        }
        int leftKey = chosenColumn(keys, 0);
        int rightKey = chosenColumn(keys, 1);
        if (!hasColumn(left, leftKey) || !hasColumn(right, rightKey)) {
            return BAD_COLUMN;
        }
        int width = nodeWidth[left];
        if (kind == INNER || kind == OUTER) {
            width += nodeWidth[right];
        }
        if (width > MAX_WIDTH) {
            return TOO_WIDE;
        }
        int node = addNode(JOIN_NODE, left, right, width);
        nodeColumnA[node] = leftKey;
        nodeColumnB[node] = rightKey;
        nodeChoice[node] = kind;
        return node;
    }

    public int union(int left, int right) {
        int refusal = refusalOfPair(left, right);
        if (refusal != OK) {
            return refusal;
        }
        if (nodeWidth[left] != nodeWidth[right]) {
            return BAD_WIDTH;
        }
        return addNode(UNION_NODE, left, right, nodeWidth[left]);
    }

    public int group(int child, int keyColumn, int aggregate, int valueColumn) {
        int refusal = refusalOfChild(child);
        if (refusal != OK) {
            return refusal;
        }
        if (!hasColumn(child, keyColumn) || !hasColumn(child, valueColumn)) {
            return BAD_COLUMN;
        }
        if (aggregate < COUNT || aggregate > MAX) {
            return BAD_KIND;
        }
        int node = addNode(GROUP_NODE, child, NO_CHILD, GROUP_WIDTH);
        nodeColumnA[node] = keyColumn;
        nodeChoice[node] = aggregate;
        nodeColumnB[node] = valueColumn;
        return node;
    }

    public int distinct(int child) {
        int refusal = refusalOfChild(child);
        if (refusal != OK) {
            return refusal;
        }
        return addNode(DISTINCT_NODE, child, NO_CHILD, nodeWidth[child]);
    }

    public int limit(int child, int n) {
        int refusal = refusalOfChild(child);
        if (refusal != OK) {
            return refusal;
        }
        int node = addNode(LIMIT_NODE, child, NO_CHILD, nodeWidth[child]);
        nodeNumber[node] = n < 0 ? 0 : n;
        return node;
    }

    public int sort(int child, int column, boolean descending) {
        int refusal = refusalOfChild(child);
        if (refusal != OK) {
            return refusal;
        }
        if (!hasColumn(child, column)) {
            return BAD_COLUMN;
        }
        int node = addNode(SORT_NODE, child, NO_CHILD, nodeWidth[child]);
        nodeColumnA[node] = column;
        nodeChoice[node] = descending ? GREATER : LESS;
        return node;
    }

    public int run(int node) {
        if (!hasNode(node)) {
            return BAD_NODE;
        }
        // A child is always older than its parent, so going up the indices meets every child before its parent.
        for (int older = 0; older <= node; older++) {
            bound[older] = boundOf(older);
        }
        if (bound[node] == TOO_BIG) {
            return TOO_BIG;
        }
        // Nodes that don't belong to this one are worked out too: it is simpler than telling them apart,
        // and a list that is not TOO_BIG always fits.
        for (int older = 0; older <= node; older++) {
            if (bound[older] != TOO_BIG) {
                workOut(older);
            }
        }
        keepResult(node);
        return resultHeight;
    }

    public int resultRows() {
        return resultHeight;
    }

    public int resultWidth() {
        return resultColumns;
    }

    public int cell(int row, int column) {
        if (row < 0 || row >= resultHeight || column < 0 || column >= resultColumns) {
            return 0;
        }
        return resultCells[row * MAX_WIDTH + column];
    }

    public int width(int node) {
        return hasNode(node) ? nodeWidth[node] : BAD_NODE;
    }

    public int tableRows(int table) {
        return hasTable(table) ? tableHeight[table] : BAD_TABLE;
    }

    private boolean hasTable(int table) {
        return table >= 0 && table < tableCount;
    }

    private boolean isScanned(int table) {
        for (int node = 0; node < nodeCount; node++) {
            if (nodeKind[node] == SCAN_NODE && nodeNumber[node] == table) {
                return true;
            }
        }
        return false;
    }

    private int tableRowStart(int table, int row) {
        return (table * MAX_TABLE_ROWS + row) * MAX_TABLE_WIDTH;
    }

    private boolean planIsFull() {
        return nodeCount >= MAX_NODES;
    }

    private boolean hasNode(int node) {
        return node >= 0 && node < nodeCount;
    }

    private boolean hasColumn(int node, int column) {
        return column >= 0 && column < nodeWidth[node];
    }

    private int chosenColumn(int columns, int i) {
        return (columns >> (3 * i)) & 7;
    }

    private int refusalOfChild(int child) {
        if (planIsFull()) {
            return PLAN_FULL;
        }
        if (!hasNode(child)) {
            return BAD_NODE;
        }
        return nodeIsChild[child] ? CHILD_USED : OK;
    }

    private int refusalOfPair(int left, int right) {
        if (planIsFull()) {
            return PLAN_FULL;
        }
        if (!hasNode(left) || !hasNode(right)) {
            return BAD_NODE;
        }
        return nodeIsChild[left] || nodeIsChild[right] || left == right ? CHILD_USED : OK;
    }

    private int addNode(int kind, int left, int right, int width) {
        int node = nodeCount;
        nodeKind[node] = kind;
        nodeLeft[node] = left;
        nodeRight[node] = right;
        nodeWidth[node] = width;
        nodeIsChild[node] = false;
        if (left != NO_CHILD) {
            nodeIsChild[left] = true;
        }
        if (right != NO_CHILD) {
            nodeIsChild[right] = true;
        }
        nodeCount = node + 1;
        return node;
    }

    private int boundOf(int node) {
        if (nodeKind[node] == SCAN_NODE) {
            return tableHeight[nodeNumber[node]];
        }
        int left = bound[nodeLeft[node]];
        if (left == TOO_BIG) {
            return TOO_BIG;
        }
        if (nodeKind[node] == LIMIT_NODE) {
            return smaller(nodeNumber[node], left);
        }
        if (nodeRight[node] == NO_CHILD) {
            return left;
        }
        int right = bound[nodeRight[node]];
        if (right == TOO_BIG) {
            return TOO_BIG;
        }
        int rows = boundOfPair(node, left, right);
        return rows > MAX_LIST_ROWS ? TOO_BIG : rows;
    }

    private int boundOfPair(int node, int left, int right) {
        if (nodeKind[node] == UNION_NODE) {
            return left + right;
        }
        switch (nodeChoice[node]) {
            case INNER:
                return left * right;
            case OUTER:
                return right == 0 ? left : left * right;
            default:
                return left;
        }
    }

    private void workOut(int node) {
        listHeight[node] = 0;
        switch (nodeKind[node]) {
            case SCAN_NODE:
                workOutScan(node);
                break;
            case FILTER_NODE:
                workOutFilter(node);
                break;
            case FILTER_COLS_NODE:
                workOutFilterCols(node);
                break;
            case MAP_NODE:
                workOutMap(node);
                break;
            case PROJECT_NODE:
                workOutProject(node);
                break;
            case JOIN_NODE:
                workOutJoin(node);
                break;
            case UNION_NODE:
                appendFirstRows(node, nodeLeft[node], MAX_LIST_ROWS);
                appendFirstRows(node, nodeRight[node], MAX_LIST_ROWS);
                break;
            case GROUP_NODE:
                workOutGroup(node);
                break;
            case DISTINCT_NODE:
                workOutDistinct(node);
                break;
            case LIMIT_NODE:
                appendFirstRows(node, nodeLeft[node], nodeNumber[node]);
                break;
            default:
                workOutSort(node);
                break;
        }
    }

    private void workOutScan(int node) {
        int table = nodeNumber[node];
        int rows = tableHeight[table];
        int columns = nodeWidth[node];
        for (int row = 0; row < rows; row++) {
            int start = tableRowStart(table, row);
            for (int column = 0; column < columns; column++) {
                putCell(node, row, column, tableCells[start + column]);
            }
        }
        listHeight[node] = rows;
    }

    private void workOutFilter(int node) {
        int child = nodeLeft[node];
        int rows = listHeight[child];
        for (int row = 0; row < rows; row++) {
            int value = listCell(child, row, nodeColumnA[node]);
            if (fulfils(value, nodeChoice[node], nodeNumber[node])) {
                appendRow(node, child, row);
            }
        }
    }

    private void workOutFilterCols(int node) {
        int child = nodeLeft[node];
        int rows = listHeight[child];
        for (int row = 0; row < rows; row++) {
            int a = listCell(child, row, nodeColumnA[node]);
            int b = listCell(child, row, nodeColumnB[node]);
            if (fulfils(a, nodeChoice[node], b)) {
                appendRow(node, child, row);
            }
        }
    }

    private void workOutMap(int node) {
        int child = nodeLeft[node];
        int rows = listHeight[child];
        for (int row = 0; row < rows; row++) {
            int a = listCell(child, row, nodeColumnA[node]);
            int b = listCell(child, row, nodeColumnB[node]);
            int value = combined(nodeChoice[node], a, b);
            putCell(node, row, nodeWidth[child], value);
            appendRow(node, child, row);
        }
    }

    private void workOutProject(int node) {
        int child = nodeLeft[node];
        int rows = listHeight[child];
        int columns = nodeWidth[node];
        for (int row = 0; row < rows; row++) {
            for (int i = 0; i < columns; i++) {
                int column = chosenColumn(nodeNumber[node], i);
                int value = listCell(child, row, column);
                putCell(node, row, i, value);
            }
        }
        listHeight[node] = rows;
    }

    private void workOutJoin(int node) {
        int left = nodeLeft[node];
        int rows = listHeight[left];
        int kind = nodeChoice[node];
        for (int row = 0; row < rows; row++) {
            boolean matched = hasMatch(node, row);
            if (matched && (kind == INNER || kind == OUTER)) {
                appendPairs(node, row);
            } else if (!matched && kind == OUTER) {
                appendWithZeros(node, row);
            } else if (matched ? kind == SEMI : kind == ANTI) {
                appendRow(node, left, row);
            }
        }
    }

    private void appendPairs(int node, int leftRow) {
        int left = nodeLeft[node];
        int right = nodeRight[node];
        int rows = listHeight[right];
        int key = listCell(left, leftRow, nodeColumnA[node]);
        for (int row = 0; row < rows; row++) {
            int rightKey = listCell(right, row, nodeColumnB[node]);
            if (rightKey == key) {
                copyRow(left, leftRow, node, listHeight[node], 0);
                copyRow(right, row, node, listHeight[node], nodeWidth[left]);
                listHeight[node]++;
            }
        }
    }

    private void appendWithZeros(int node, int leftRow) {
        int left = nodeLeft[node];
        int columns = nodeWidth[node];
        for (int column = nodeWidth[left]; column < columns; column++) {
            putCell(node, listHeight[node], column, 0);
        }
        copyRow(left, leftRow, node, listHeight[node], 0);
        listHeight[node]++;
    }

    private boolean hasMatch(int node, int leftRow) {
        int right = nodeRight[node];
        int rows = listHeight[right];
        int key = listCell(nodeLeft[node], leftRow, nodeColumnA[node]);
        for (int row = 0; row < rows; row++) {
            int rightKey = listCell(right, row, nodeColumnB[node]);
            if (rightKey == key) {
                return true;
            }
        }
        return false;
    }

    private void workOutGroup(int node) {
        int child = nodeLeft[node];
        int rows = listHeight[child];
        int aggregate = nodeChoice[node];
        for (int row = 0; row < rows; row++) {
            int key = listCell(child, row, nodeColumnA[node]);
            // Counting is summing a 1 for every row.
            int value = aggregate == COUNT ? 1 : listCell(child, row, nodeColumnB[node]);
            int group = groupOf(node, key);
            if (group < listHeight[node]) {
                int soFar = listCell(node, group, 1);
                value = aggregated(aggregate, soFar, value);
            } else {
                listHeight[node] = group + 1;
            }
            putCell(node, group, 0, key);
            putCell(node, group, 1, value);
        }
    }

    // A key that has no group yet belongs to the one behind the last.
    private int groupOf(int node, int key) {
        int groups = listHeight[node];
        for (int group = 0; group < groups; group++) {
            int groupKey = listCell(node, group, 0);
            if (groupKey == key) {
                return group;
            }
        }
        return groups;
    }

    private void workOutDistinct(int node) {
        int child = nodeLeft[node];
        int rows = listHeight[child];
        for (int row = 0; row < rows; row++) {
            if (!isKept(node, child, row)) {
                appendRow(node, child, row);
            }
        }
    }

    private boolean isKept(int node, int child, int row) {
        int kept = listHeight[node];
        for (int other = 0; other < kept; other++) {
            if (rowsAreEqual(node, other, child, row)) {
                return true;
            }
        }
        return false;
    }

    private boolean rowsAreEqual(int nodeA, int rowA, int nodeB, int rowB) {
        int a = (nodeA * MAX_LIST_ROWS + rowA) * MAX_WIDTH;
        int b = (nodeB * MAX_LIST_ROWS + rowB) * MAX_WIDTH;
        int columns = nodeWidth[nodeA];
        for (int column = 0; column < columns; column++) {
            if (listCells[a + column] != listCells[b + column]) {
                return false;
            }
        }
        return true;
    }

    private void workOutSort(int node) {
        int child = nodeLeft[node];
        int rows = listHeight[child];
        for (int row = 0; row < rows; row++) {
            int rank = rankOf(node, row);
            copyRow(child, row, node, rank, 0);
        }
        listHeight[node] = rows;
    }

    // How many rows go before this one: the older ones among equals do, which keeps them in their order.
    private int rankOf(int node, int row) {
        int child = nodeLeft[node];
        int rows = listHeight[child];
        int value = listCell(child, row, nodeColumnA[node]);
        int rank = 0;
        for (int other = 0; other < rows; other++) {
            int otherValue = listCell(child, other, nodeColumnA[node]);
            if (otherValue == value ? other < row : fulfils(otherValue, nodeChoice[node], value)) {
                rank++;
            }
        }
        return rank;
    }

    private boolean fulfils(int a, int cmp, int b) {
        switch (cmp) {
            case EQUAL:
                return a == b;
            case NOT_EQUAL:
                return a != b;
            case LESS:
                return a < b;
            case LESS_OR_EQUAL:
                return a <= b;
            case GREATER:
                return a > b;
            default:
                return a >= b;
        }
    }

    private int combined(int op, int a, int b) {
        switch (op) {
            case ADD:
                return a + b;
            case SUB:
                return a - b;
            case MUL:
                return a * b;
            case LEAST:
                return smaller(a, b);
            default:
                return larger(a, b);
        }
    }

    private int aggregated(int aggregate, int soFar, int value) {
        switch (aggregate) {
            case MIN:
                return smaller(soFar, value);
            case MAX:
                return larger(soFar, value);
            default:
                return soFar + value;
        }
    }

    private int smaller(int a, int b) {
        return a < b ? a : b;
    }

    private int larger(int a, int b) {
        return a > b ? a : b;
    }

    private void appendFirstRows(int node, int source, int n) {
        int rows = smaller(n, listHeight[source]);
        for (int row = 0; row < rows; row++) {
            appendRow(node, source, row);
        }
    }

    private void appendRow(int node, int source, int row) {
        copyRow(source, row, node, listHeight[node], 0);
        listHeight[node]++;
    }

    private void copyRow(int source, int sourceRow, int node, int row, int firstColumn) {
        int from = (source * MAX_LIST_ROWS + sourceRow) * MAX_WIDTH;
        int to = (node * MAX_LIST_ROWS + row) * MAX_WIDTH + firstColumn;
        int columns = nodeWidth[source];
        for (int column = 0; column < columns; column++) {
            listCells[to + column] = listCells[from + column];
        }
    }

    private int listCell(int node, int row, int column) {
        return listCells[(node * MAX_LIST_ROWS + row) * MAX_WIDTH + column];
    }

    private void putCell(int node, int row, int column, int value) {
        listCells[(node * MAX_LIST_ROWS + row) * MAX_WIDTH + column] = value;
    }

    private void keepResult(int node) {
        int rows = listHeight[node];
        int columns = nodeWidth[node];
        for (int row = 0; row < rows; row++) {
            for (int column = 0; column < columns; column++) {
                resultCells[row * MAX_WIDTH + column] = listCell(node, row, column);
            }
        }
        resultHeight = rows;
        resultColumns = columns;
    }
}
