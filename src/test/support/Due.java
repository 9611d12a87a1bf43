import java.util.Arrays;

/** Counts and prints the answers that are not the ones that are due. */
final class Due {
    private int wrong = 0;
    private int sentences = 0;
    private String about = "";

    /** The answers from here on are those that these words of the document ask for. */
    void sentence(String where, String words) {
        sentences++;
        about = where + ", \"" + words + "\": ";
    }

    void answer(String call, long got, long want) {
        if (got != want) {
            wrong++;
            System.out.println(about + call + " answered " + got + ", due is " + want);
        }
    }

    void isTrue(String claim, boolean holds) {
        if (!holds) {
            wrong++;
            System.out.println(about + "does not hold: " + claim);
        }
    }

    /** Runs the node and compares the whole result, its width too. */
    void list(String what, QueryPushCompiler x, int node, int width, int[]... rows) {
        answer(what + ": run", x.run(node), rows.length);
        result(what, x, width, rows);
    }

    void result(String what, QueryPushCompiler x, int width, int[]... rows) {
        answer(what + ": resultRows", x.resultRows(), rows.length);
        answer(what + ": resultWidth", x.resultWidth(), width);
        for (int row = 0; row < rows.length; row++) {
            int[] got = new int[width];
            for (int column = 0; column < width; column++) {
                got[column] = x.cell(row, column);
            }
            isTrue(what + ": row " + row + " is " + Arrays.toString(rows[row]) + ", got " + Arrays.toString(got),
                    Arrays.equals(got, rows[row]));
        }
    }

    void end() {
        String of = sentences == 0 ? "" : ", of " + sentences + " sentences";
        System.out.println(wrong == 0 ? "all answers are as due" + of : wrong + " answers are not as due" + of);
        if (wrong != 0) {
            System.exit(1);
        }
    }

    static int[] row(int... values) {
        return values;
    }
}
