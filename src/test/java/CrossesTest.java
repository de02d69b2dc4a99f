import java.util.List;

/** Promises 21 to 23. */
public final class CrossesTest {
    private static final Check CHECK = new Check("CrossesTest");
    private static final int OUTSIDE = SchubertDesk.OUTSIDE;
    private static final int STATE = SchubertDesk.STATE;
    private static final int NONE = SchubertDesk.NONE;
    private static final int[] FAR = {-2, -3, -9, Integer.MIN_VALUE};

    public static void main(String[] args) {
        Fresh x = new Fresh();
        ordinary(x);
        refusals(x);
        for (int crosses = 0; crosses < 1024; crosses++) {
            int due = Oracle.isTight(crosses) ? Oracle.plain(Oracle.made(crosses)) : NONE;
            CHECK.due("makes(" + crosses + ")", x.desk().makes(crosses), due);
            ladders(x, crosses);
        }
        for (int w : Oracle.all(5)) {
            dreams(x, w);
        }
        CHECK.end();
    }

    private static void ordinary(Fresh x) {
        CHECK.due("makes(0)", x.desk().makes(0), 1);
        CHECK.due("makes(8)", x.desk().makes(8), 12354);
        CHECK.due("makes(18)", x.desk().makes(18), NONE);
        CHECK.due("makes(17)", x.desk().makes(17), 231);
        CHECK.due("makes(1023)", x.desk().makes(1023), 54321);
        CHECK.due("dream(54321, -1)", x.desk().dream(54321, -1), 1);
        CHECK.due("dream(54321, 0)", x.desk().dream(54321, 0), 1023);
        CHECK.due("dream(15432, -1)", x.desk().dream(15432, -1), 14);
        CHECK.due("dream(123456789, 0)", x.desk().dream(123456789, 0), 0);
        CHECK.due("dream(132456789, 1)", x.desk().dream(132456789, 1), 16);
        CHECK.due("dream(21, 1)", x.desk().dream(21, 1), NONE);
        CHECK.due("dream(21, max)", x.desk().dream(21, Integer.MAX_VALUE), NONE);
        CHECK.due("ladder(0, -1)", x.desk().ladder(0, -1), 0);
        CHECK.due("ladder(0, 0)", x.desk().ladder(0, 0), NONE);
        // A cross at row 3, place 1, with both at row 2: it climbs two rows at once.
        CHECK.due("ladder(176, -1)", x.desk().ladder(128 + 16 + 32, -1), 2);
        CHECK.due("ladder(176, 0)", x.desk().ladder(128 + 16 + 32, 0), 50);
        CHECK.due("ladder(176, 1)", x.desk().ladder(128 + 16 + 32, 1), 148);
        CHECK.due("ladder(512, max)", x.desk().ladder(512, Integer.MAX_VALUE), NONE);
    }

    private static void refusals(Fresh x) {
        int[] wrong = {-1, 1024, Integer.MAX_VALUE, Integer.MIN_VALUE};
        for (int crosses : wrong) {
            CHECK.due("makes(" + crosses + ")", x.desk().makes(crosses), OUTSIDE);
            CHECK.due("ladder(" + crosses + ", -1)", x.desk().ladder(crosses, -1), OUTSIDE);
        }
        for (int k : FAR) {
            CHECK.due("ladder(512, " + k + ")", x.desk().ladder(512, k), OUTSIDE);
            CHECK.due("dream(21, " + k + ")", x.desk().dream(21, k), OUTSIDE);
            CHECK.due("dream(123465, " + k + ")", x.desk().dream(123465, k), OUTSIDE);
        }
        CHECK.due("dream(2, 0)", x.desk().dream(2, 0), OUTSIDE);
        CHECK.due("dream(123465, -1)", x.desk().dream(123465, -1), STATE);
        CHECK.due("dream(123465, 0)", x.desk().dream(123465, 0), STATE);
        CHECK.due("dream(123456798, 0)", x.desk().dream(123456798, 0), STATE);
    }

    private static void ladders(Fresh x, int crosses) {
        List<Integer> due = Oracle.ladders(crosses);
        for (int k = -1; k <= due.size(); k++) {
            CHECK.due("ladder(" + crosses + ", " + k + ")", x.desk().ladder(crosses, k), Oracle.listed(due, k));
        }
    }

    private static void dreams(Fresh x, int w) {
        List<Integer> due = Oracle.dreams(Oracle.read(w));
        for (int k = -1; k <= due.size(); k++) {
            CHECK.due("dream(" + w + ", " + k + ")", x.desk().dream(w, k), Oracle.listed(due, k));
        }
        // Each set of crosses is a term of S with the crosses of row i as exponent of xi.
        CHECK.due("S of " + w + " at 1", x.desk().value(w, 1, 1, 1, 1), due.size());
    }
}
