import java.util.List;

/** Promises 26 and 27. */
public final class ShapesTest {
    private static final Check CHECK = new Check("ShapesTest");
    private static final int OUTSIDE = SchubertDesk.OUTSIDE;
    private static final int STATE = SchubertDesk.STATE;
    private static final int NONE = SchubertDesk.NONE;

    public static void main(String[] args) {
        Fresh x = new Fresh();
        ordinary(x);
        refusals(x);
        for (int n = 1; n <= 6; n++) {
            for (int w : Oracle.all(n)) {
                asDocumented(x, w);
            }
        }
        List<Integer> nine = Oracle.all(9);
        for (int k = 0; k < nine.size(); k += 53) {
            asDocumented(x, nine.get(k));
        }
        for (int w : Oracle.allFit()) {
            asDocumented(x, w);
        }
        CHECK.end();
    }

    private static void ordinary(Fresh x) {
        CHECK.due("shape(1365724, ..)", x.desk().shape(1365724, 1), STATE);
        CHECK.due("shape(1362457, 1)", x.desk().shape(1362457, 1), 3);
        CHECK.due("shape(1362457, 2)", x.desk().shape(1362457, 2), 1);
        CHECK.due("shape(1362457, 3)", x.desk().shape(1362457, 3), 0);
        CHECK.due("shape(1362457, 4)", x.desk().shape(1362457, 4), NONE);
        CHECK.due("shape(123456798, 8)", x.desk().shape(123456798, 8), 0);
        CHECK.due("shape(123456798, 1)", x.desk().shape(123456798, 1), 1);
        CHECK.due("shape(123456798, 9)", x.desk().shape(123456798, 9), NONE);
        CHECK.due("shape(21, max)", x.desk().shape(21, Integer.MAX_VALUE), NONE);
        CHECK.due("avoids(987654321, 1)", x.desk().avoids(987654321, 1), 1);
        CHECK.due("avoids(987654321, 2)", x.desk().avoids(987654321, 2), 1);
        CHECK.due("avoids(123456798, 1)", x.desk().avoids(123456798, 1), 0);
        CHECK.due("avoids(123456798, 2)", x.desk().avoids(123456798, 2), 1);
        CHECK.due("avoids(213456798, 2)", x.desk().avoids(213456798, 2), 0);
        CHECK.due("avoids(231, 1)", x.desk().avoids(231, 1), 1);
        CHECK.due("avoids(3142, 2)", x.desk().avoids(3142, 2), 1);
    }

    private static void refusals(Fresh x) {
        int[] wrong = {0, -1, -9, Integer.MIN_VALUE};
        for (int k : wrong) {
            CHECK.due("shape(21, " + k + ")", x.desk().shape(21, k), OUTSIDE);
            CHECK.due("shape(1, " + k + ")", x.desk().shape(1, k), OUTSIDE);
            CHECK.due("avoids(21, " + k + ")", x.desk().avoids(21, k), OUTSIDE);
        }
        CHECK.due("shape(2, 1)", x.desk().shape(2, 1), OUTSIDE);
        CHECK.due("shape(1, 1)", x.desk().shape(1, 1), STATE);
        CHECK.due("shape(321, 1)", x.desk().shape(321, 1), STATE);
        CHECK.due("shape(321, 9)", x.desk().shape(321, 9), STATE);
        CHECK.due("avoids(2, 1)", x.desk().avoids(2, 1), OUTSIDE);
        CHECK.due("avoids(21, 3)", x.desk().avoids(21, 3), OUTSIDE);
        CHECK.due("avoids(21, max)", x.desk().avoids(21, Integer.MAX_VALUE), OUTSIDE);
    }

    private static void asDocumented(Fresh x, int told) {
        int[] w = Oracle.read(told);
        CHECK.due("avoids(" + told + ", 1)", x.desk().avoids(told, 1), Oracle.avoids(w, 1) ? 1 : 0);
        CHECK.due("avoids(" + told + ", 2)", x.desk().avoids(told, 2), Oracle.avoids(w, 2) ? 1 : 0);
        boolean hasShape = Integer.bitCount(Oracle.descents(w)) == 1;
        int r = Oracle.stepR(w);
        for (int k = 1; k <= 10; k++) {
            int due = STATE;
            if (hasShape) {
                due = k <= r ? w[r + 1 - k] - (r + 1 - k) : NONE;
            }
            CHECK.due("shape(" + told + ", " + k + ")", x.desk().shape(told, k), due);
        }
    }
}
