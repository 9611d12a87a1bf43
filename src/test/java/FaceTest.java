import java.lang.reflect.Constructor;
import java.lang.reflect.Field;
import java.lang.reflect.Method;
import java.lang.reflect.Modifier;
import java.util.Map;
import java.util.Set;
import java.util.TreeMap;
import java.util.TreeSet;

/** The public face has every member that the document tells, and no other. */
public final class FaceTest {
    private static final Due due = new Due();
    private static final Class<?> FACE = QueryPushCompiler.class;

    public static void main(String[] args) throws Exception {
        theClassIsPublicAndFinal();
        theConstants();
        theConstructor();
        theMethods();
        thePrivateParts();
        due.end();
    }

    private static void theClassIsPublicAndFinal() {
        due.isTrue("public", Modifier.isPublic(FACE.getModifiers()));
        due.isTrue("final", Modifier.isFinal(FACE.getModifiers()));
        due.answer("nested classes", FACE.getDeclaredClasses().length, 0);
    }

    private static void theConstants() throws Exception {
        String[] names = {"BAD_TABLE", "BAD_WIDTH", "BAD_COLUMN", "BAD_NODE", "CHILD_USED", "BAD_KIND", "TOO_WIDE",
            "PLAN_FULL", "TABLE_FULL", "TOO_BIG", "IN_USE", "BAD_ROW", "ADD", "SUB", "MUL", "LEAST", "GREATEST",
            "INNER", "SEMI", "ANTI", "OUTER", "COUNT", "SUM", "MIN", "MAX"};
        int[] values = {-1, -2, -3, -4, -5, -6, -7, -8, -9, -10, -11, -12, 0, 1, 2, 3, 4, 0, 1, 2, 3, 0, 1, 2, 3};
        Map<String, Integer> want = new TreeMap<>();
        for (int i = 0; i < names.length; i++) {
            want.put(names[i], values[i]);
        }
        Map<String, Integer> got = new TreeMap<>();
        for (Field field : FACE.getDeclaredFields()) {
            if (!Modifier.isPrivate(field.getModifiers())) {
                due.isTrue(field + " is a constant", field.toString().startsWith("public static final int "));
                got.put(field.getName(), field.getInt(null));
            }
        }
        due.isTrue("constants " + want + ", got " + got, want.equals(got));
    }

    private static void theConstructor() {
        Constructor<?>[] all = FACE.getDeclaredConstructors();
        due.answer("constructors", all.length, 1);
        due.isTrue("constructor " + all[0], all[0].toString().equals("public QueryPushCompiler(int)"));
    }

    private static void theMethods() {
        Set<String> want = new TreeSet<>(Set.of(
                "int defineTable(int,int)", "int addRow(int,int,int,int)", "int setCell(int,int,int,int)",
                "int dropRow(int,int)", "void clearPlan()", "int scan(int)", "int filter(int,int,int,int)",
                "int filterCols(int,int,int,int)", "int map(int,int,int,int)", "int project(int,int,int)",
                "int join(int,int,int,int)", "int union(int,int)", "int group(int,int,int,int)", "int distinct(int)",
                "int limit(int,int)", "int sort(int,int,boolean)", "int run(int)", "int resultRows()",
                "int resultWidth()", "int cell(int,int)", "int width(int)", "int tableRows(int)"));
        Set<String> got = new TreeSet<>();
        for (Method method : FACE.getDeclaredMethods()) {
            if (!Modifier.isPrivate(method.getModifiers())) {
                got.add(method.toString().replace("public ", "").replace("QueryPushCompiler.", ""));
            }
        }
        due.isTrue("methods " + want + ", got " + got, want.equals(got));
    }

    /** What LANGUAGE.md says of the parts that reflection can see. */
    private static void thePrivateParts() {
        Set<String> publicNames = new TreeSet<>();
        for (Method method : FACE.getMethods()) {
            publicNames.add(method.getName());
        }
        for (Method method : FACE.getDeclaredMethods()) {
            due.isTrue(method + " has at most seven parameters", method.getParameterCount() <= 7);
            if (Modifier.isPrivate(method.getModifiers())) {
                due.isTrue(method + " has a name of its own", !publicNames.contains(method.getName()));
            }
        }
        int fields = 0;
        for (Field field : FACE.getDeclaredFields()) {
            Class<?> type = field.getType();
            due.isTrue(field + " holds numbers", (type.isArray() ? type.getComponentType() : type).isPrimitive());
            if (Modifier.isStatic(field.getModifiers())) {
                due.isTrue(field + " is a constant", Modifier.isFinal(field.getModifiers()) && type == int.class);
            } else {
                fields++;
            }
        }
        due.isTrue("at most forty fields, got " + fields, fields <= 40);
    }
}
