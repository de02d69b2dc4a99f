import java.util.List;

/** Promises 24 and 25. */
public final class RisesTest {
    private static final Check CHECK = new Check("RisesTest");
    private static final int OUTSIDE = SchubertDesk.OUTSIDE;
    private static final int STATE = SchubertDesk.STATE;
    private static final int NONE = SchubertDesk.NONE;

    public static void main(String[] args) {
        Fresh x = new Fresh();
        ordinary(x);
        refusals(x);
        for (int n = 1; n <= 5; n++) {
            for (int w : Oracle.all(n)) {
                rises(x, w);
                steps(x, w);
            }
        }
        List<Integer> eight = Oracle.all(8);
        for (int k = 0; k < eight.size(); k += 61) {
            rises(x, eight.get(k));
        }
        List<Integer> nine = Oracle.all(9);
        for (int k = 0; k < nine.size(); k += 97) {
            steps(x, nine.get(k));
            CHECK.due("rise(" + nine.get(k) + ", 4, -1)", x.desk().rise(nine.get(k), 4, -1), OUTSIDE);
        }
        CHECK.end();
    }

    private static void ordinary(Fresh x) {
        CHECK.due("rise(21, 1, -1)", x.desk().rise(21, 1, -1), 1);
        CHECK.due("rise(21, 1, 0)", x.desk().rise(21, 1, 0), 312);
        CHECK.due("rise(21, 1, max)", x.desk().rise(21, 1, Integer.MAX_VALUE), NONE);
        CHECK.due("rise(12345678, 8, 0)", x.desk().rise(12345678, 8, 0), 123456798);
        CHECK.due("rise(87654321, 8, -1)", x.desk().rise(87654321, 8, -1), 8);
        CHECK.due("rise(87654321, 8, 0)", x.desk().rise(87654321, 8, 0), 876543291);
        CHECK.due("step(987654321, -3)", x.desk().step(987654321, -3), 8);
        CHECK.due("step(987654321, -2)", x.desk().step(987654321, -2), 9);
        CHECK.due("step(123456798, 0)", x.desk().step(123456798, 0), 1);
        CHECK.due("step(123456798, 1)", x.desk().step(123456798, 1), 12345687);
        CHECK.due("step(15243, -3)", x.desk().step(15243, -3), 4);
        CHECK.due("step(1524367, 0)", x.desk().step(1524367, 0), 15234);
        CHECK.due("step(21, max)", x.desk().step(21, Integer.MAX_VALUE), NONE);
    }

    private static void refusals(Fresh x) {
        CHECK.due("rise(2, 1, 0)", x.desk().rise(2, 1, 0), OUTSIDE);
        CHECK.due("rise(0, 1, 0)", x.desk().rise(0, 1, 0), OUTSIDE);
        CHECK.due("rise(213456789, 1, 0)", x.desk().rise(213456789, 1, 0), OUTSIDE);
        int[] wrong = {0, -1, 9, 10, Integer.MAX_VALUE, Integer.MIN_VALUE};
        for (int r : wrong) {
            CHECK.due("rise(21, " + r + ", 0)", x.desk().rise(21, r, 0), OUTSIDE);
        }
        CHECK.due("rise(21, 1, -2)", x.desk().rise(21, 1, -2), OUTSIDE);
        CHECK.due("rise(21, 1, min)", x.desk().rise(21, 1, Integer.MIN_VALUE), OUTSIDE);
        CHECK.due("step(2, 0)", x.desk().step(2, 0), OUTSIDE);
        CHECK.due("step(21, -4)", x.desk().step(21, -4), OUTSIDE);
        CHECK.due("step(21, min)", x.desk().step(21, Integer.MIN_VALUE), OUTSIDE);
        CHECK.due("step(1, -4)", x.desk().step(1, -4), OUTSIDE);
        for (int k = -3; k <= 2; k++) {
            CHECK.due("step(1, " + k + ")", x.desk().step(1, k), STATE);
            CHECK.due("step(123456789, " + k + ")", x.desk().step(123456789, k), STATE);
        }
    }

    private static void rises(Fresh x, int told) {
        for (int r = 1; r <= 8; r++) {
            List<Integer> due = Oracle.rises(Oracle.read(told), r);
            for (int k = -1; k <= due.size(); k++) {
                CHECK.due("rise(" + told + ", " + r + ", " + k + ")", x.desk().rise(told, r, k),
                        Oracle.listed(due, k));
            }
        }
    }

    private static void steps(Fresh x, int told) {
        int[] w = Oracle.read(told);
        int r = Oracle.stepR(w);
        if (r == 0) {
            CHECK.due("step(" + told + ", 0)", x.desk().step(told, 0), STATE);
            return;
        }
        int s = Oracle.stepS(w);
        List<Integer> heirs = Oracle.heirs(w);
        CHECK.due("step(" + told + ", -3)", x.desk().step(told, -3), r);
        CHECK.due("step(" + told + ", -2)", x.desk().step(told, -2), s);
        CHECK.due("step(" + told + ", -1)", x.desk().step(told, -1), heirs.size());
        CHECK.due("step(" + told + ", 0)", x.desk().step(told, 0), Oracle.plain(Oracle.exchanged(w, r, s)));
        for (int k = 1; k <= heirs.size() + 1; k++) {
            CHECK.due("step(" + told + ", " + k + ")", x.desk().step(told, k), Oracle.listed(heirs, k - 1));
        }
    }
}
