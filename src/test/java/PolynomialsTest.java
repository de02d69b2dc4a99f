import java.util.List;
import java.util.Map;

/** Promises 11 to 13. */
public final class PolynomialsTest {
    private static final Check CHECK = new Check("PolynomialsTest");
    private static final int OUTSIDE = SchubertDesk.OUTSIDE;
    private static final int STATE = SchubertDesk.STATE;
    private static final long LOST = SchubertDesk.LOST;

    public static void main(String[] args) {
        Fresh x = new Fresh();
        ordinary(x);
        refusals(x);
        List<Integer> fit = Oracle.allFit();
        CHECK.due("fit ones", fit.size(), 3024);
        for (int w : fit) {
            asDocumented(x, w);
        }
        everyNumber(x, 15432);
        everyNumber(x, 1432);
        everyNumber(x, 362514);
        CHECK.end();
    }

    private static void ordinary(Fresh x) {
        CHECK.due("number(1, 0, 0, 0, 0)", x.desk().number(1, 0, 0, 0, 0), 1);
        CHECK.due("number(132, 1, 0, 0, 0)", x.desk().number(132, 1, 0, 0, 0), 1);
        CHECK.due("number(132, 0, 1, 0, 0)", x.desk().number(132, 0, 1, 0, 0), 1);
        CHECK.due("number(132, 0, 0, 1, 0)", x.desk().number(132, 0, 0, 1, 0), 0);
        CHECK.due("number(1234576, 1, 0, 0, 0)", x.desk().number(1234576, 1, 0, 0, 0), STATE);
        CHECK.due("number(12354, 0, 0, 0, 1)", x.desk().number(12354, 0, 0, 0, 1), 1);
        CHECK.due("number(987612345, 8, 7, 6, 5)", x.desk().number(987612345, 8, 7, 6, 5), 1);
        CHECK.due("number(1, 9, 0, 0, 0)", x.desk().number(1, 9, 0, 0, 0), 0);
        CHECK.due("number(1, 0, 8, 0, 0)", x.desk().number(1, 0, 8, 0, 0), 0);
        CHECK.due("number(1, 0, 0, 7, 0)", x.desk().number(1, 0, 0, 7, 0), 0);
        CHECK.due("number(1, 0, 0, 0, 6)", x.desk().number(1, 0, 0, 0, 6), 0);
        int most = Integer.MAX_VALUE;
        CHECK.due("number(21, 1, max ..)", x.desk().number(21, 1, most, most, most), 0);
        CHECK.due("terms(12354)", x.desk().terms(12354), 4);
        CHECK.due("terms(15432)", x.desk().terms(15432), 14);
        CHECK.due("value(15432, 1, 1, 1, 1)", x.desk().value(15432, 1, 1, 1, 1), 14);
        CHECK.due("value(12354, 3, 3, 3, 3)", x.desk().value(12354, 3, 3, 3, 3), 12);
        CHECK.due("value(12354, -3, 2, 1, 0)", x.desk().value(12354, -3, 2, 1, 0), 0);
        CHECK.due("value(987612345, 3, 3, 3, 3)", x.desk().value(987612345, 3, 3, 3, 3), 2541865828329L);
        CHECK.due("value(987612345, -3, -3, 3, 3)", x.desk().value(987612345, -3, -3, 3, 3), -2541865828329L);
        CHECK.due("value(987612345, 0, 3, 3, 3)", x.desk().value(987612345, 0, 3, 3, 3), 0);
    }

    private static void refusals(Fresh x) {
        int least = Integer.MIN_VALUE;
        CHECK.due("number(2, 0, 0, 0, 0)", x.desk().number(2, 0, 0, 0, 0), OUTSIDE);
        CHECK.due("number(21, -1, 0, 0, 0)", x.desk().number(21, -1, 0, 0, 0), OUTSIDE);
        CHECK.due("number(21, 0, -1, 0, 0)", x.desk().number(21, 0, -1, 0, 0), OUTSIDE);
        CHECK.due("number(21, 0, 0, -1, 0)", x.desk().number(21, 0, 0, -1, 0), OUTSIDE);
        CHECK.due("number(21, 0, 0, 0, min)", x.desk().number(21, 0, 0, 0, least), OUTSIDE);
        CHECK.due("number(123465, 0, 0, 0, -1)", x.desk().number(123465, 0, 0, 0, -1), OUTSIDE);
        CHECK.due("number(123465, 0, 0, 0, 0)", x.desk().number(123465, 0, 0, 0, 0), STATE);
        CHECK.due("number(123456798, 0, 0, 0, 0)", x.desk().number(123456798, 0, 0, 0, 0), STATE);
        CHECK.due("terms(0)", x.desk().terms(0), OUTSIDE);
        CHECK.due("terms(987654321)", x.desk().terms(987654321), STATE);
        CHECK.due("terms(654321)", x.desk().terms(654321), STATE);
        CHECK.due("terms(54321)", x.desk().terms(54321), 1);
        CHECK.due("value(2, 0, 0, 0, 0)", x.desk().value(2, 0, 0, 0, 0), LOST);
        CHECK.due("value(123465, 0, 0, 0, 0)", x.desk().value(123465, 0, 0, 0, 0), LOST);
        int[] wrong = {4, -4, Integer.MAX_VALUE, Integer.MIN_VALUE};
        for (int n : wrong) {
            CHECK.due("value(21, " + n + ", 0, 0, 0)", x.desk().value(21, n, 0, 0, 0), LOST);
            CHECK.due("value(21, 0, " + n + ", 0, 0)", x.desk().value(21, 0, n, 0, 0), LOST);
            CHECK.due("value(21, 0, 0, " + n + ", 0)", x.desk().value(21, 0, 0, n, 0), LOST);
            CHECK.due("value(21, 0, 0, 0, " + n + ")", x.desk().value(21, 0, 0, 0, n), LOST);
        }
    }

    private static void asDocumented(Fresh x, int w) {
        Poly due = Oracle.single(Oracle.read(w));
        CHECK.due("terms(" + w + ")", x.desk().terms(w), due.size());
        for (Map.Entry<List<Integer>, Long> entry : due.numbers.entrySet()) {
            List<Integer> e = entry.getKey();
            CHECK.due("number(" + w + ", " + e + ")",
                    x.desk().number(w, e.get(0), e.get(1), e.get(2), e.get(3)), entry.getValue());
        }
        int[][] points = {{1, 1, 1, 1}, {3, -2, 1, -3}, {-1, 2, 3, 0}, {3, 3, 3, 3}};
        for (int[] p : points) {
            CHECK.due("value(" + w + ", " + p[0] + ", " + p[1] + ", " + p[2] + ", " + p[3] + ")",
                    x.desk().value(w, p[0], p[1], p[2], p[3]), due.value(p));
        }
    }

    private static void everyNumber(Fresh x, int w) {
        Poly due = Oracle.single(Oracle.read(w));
        for (int c = 0; c < 10000; c++) {
            List<Integer> e = List.of(c % 10, c / 10 % 10, c / 100 % 10, c / 1000);
            CHECK.due("number(" + w + ", " + e + ")",
                    x.desk().number(w, e.get(0), e.get(1), e.get(2), e.get(3)), due.at(e));
        }
    }
}
