import java.util.ArrayDeque;
import java.util.HashMap;
import java.util.HashSet;
import java.util.List;
import java.util.Map;
import java.util.Set;

/** Promises 2 to 10. */
public final class PermutationsTest {
    private static final Check CHECK = new Check("PermutationsTest");
    private static final int[] NONE_OF_THEM = {0, -1, 2, 3, 9, 10, 11, 12345678 * 10, 20, 22, 13, 31,
        112, 122, 120, 102, 1023, 1224, 124, 99, 123456780, 1234567890, 987654320, 987654322, 999999999,
        1000000000, Integer.MAX_VALUE, Integer.MIN_VALUE, -21, -123456789};
    private static final int OUTSIDE = SchubertDesk.OUTSIDE;

    public static void main(String[] args) {
        Fresh x = new Fresh();
        ordinary(x);
        refusals(x);
        for (int n = 1; n <= 6; n++) {
            for (int w : Oracle.all(n)) {
                asDocumented(x, w);
            }
        }
        List<Integer> nine = Oracle.all(9);
        for (int k = 0; k < nine.size(); k += 97) {
            asDocumented(x, nine.get(k));
            int u = nine.get((int) (k * 7919L % nine.size()));
            pairs(x, u, nine.get(k));
        }
        codes(x);
        orders(x);
        for (int w : Oracle.all(5)) {
            CHECK.due("words(" + w + ")", x.desk().words(w), Oracle.words(Oracle.read(w)));
        }
        CHECK.end();
    }

    private static void ordinary(Fresh x) {
        CHECK.due("plain(2134)", x.desk().plain(2134), 21);
        CHECK.due("plain(123456789)", x.desk().plain(123456789), 1);
        CHECK.due("plain(123456798)", x.desk().plain(123456798), 123456798);
        CHECK.due("plain(987654321)", x.desk().plain(987654321), 987654321);
        CHECK.due("length(987654321)", x.desk().length(987654321), 36);
        CHECK.due("code(987654321, 1)", x.desk().code(987654321, 1), 8);
        CHECK.due("code(987654321, 9)", x.desk().code(987654321, 9), 0);
        CHECK.due("code(21, 9)", x.desk().code(21, 9), 0);
        CHECK.due("descents(987654321)", x.desk().descents(987654321), 510);
        CHECK.due("descents(123456798)", x.desk().descents(123456798), 256);
        CHECK.due("inverse(2341)", x.desk().inverse(2341), 4123);
        CHECK.due("inverse(234567891)", x.desk().inverse(234567891), 912345678);
        CHECK.due("after(312, 21)", x.desk().after(312, 21), 132);
        CHECK.due("after(21, 12354)", x.desk().after(21, 12354), 21354);
        CHECK.due("after(231, 312)", x.desk().after(231, 312), 1);
        CHECK.due("ofCode(0, 0, 0, 0)", x.desk().ofCode(0, 0, 0, 0), 1);
        CHECK.due("ofCode(0, 2, 1, 0)", x.desk().ofCode(0, 2, 1, 0), 1432);
        CHECK.due("ofCode(8, 0, 0, 0)", x.desk().ofCode(8, 0, 0, 0), 912345678);
        CHECK.due("ofCode(0, 7, 0, 0)", x.desk().ofCode(0, 7, 0, 0), 192345678);
        CHECK.due("ofCode(0, 0, 6, 0)", x.desk().ofCode(0, 0, 6, 0), 129345678);
        CHECK.due("below(21, 21)", x.desk().below(21, 21), 1);
        CHECK.due("below(21, 2134)", x.desk().below(21, 2134), 1);
        CHECK.due("below(312, 231)", x.desk().below(312, 231), 0);
        CHECK.due("below(2143, 3412)", x.desk().below(2143, 3412), 1);
        CHECK.due("below(123456798, 213456789)", x.desk().below(123456798, 213456789), 0);
        CHECK.due("words(321)", x.desk().words(321), 2);
        CHECK.due("words(4321)", x.desk().words(4321), 16);
        CHECK.due("words(54321)", x.desk().words(54321), 768);
        CHECK.due("words(543216789)", x.desk().words(543216789), 768);
        CHECK.due("words(123465)", x.desk().words(123465), SchubertDesk.STATE);
        CHECK.due("words(987654321)", x.desk().words(987654321), SchubertDesk.STATE);
    }

    private static void refusals(Fresh x) {
        for (int w : NONE_OF_THEM) {
            CHECK.due("plain(" + w + ")", x.desk().plain(w), OUTSIDE);
            CHECK.due("length(" + w + ")", x.desk().length(w), OUTSIDE);
            CHECK.due("code(" + w + ", 1)", x.desk().code(w, 1), OUTSIDE);
            CHECK.due("descents(" + w + ")", x.desk().descents(w), OUTSIDE);
            CHECK.due("inverse(" + w + ")", x.desk().inverse(w), OUTSIDE);
            CHECK.due("after(" + w + ", 1)", x.desk().after(w, 1), OUTSIDE);
            CHECK.due("after(1, " + w + ")", x.desk().after(1, w), OUTSIDE);
            CHECK.due("below(" + w + ", 1)", x.desk().below(w, 1), OUTSIDE);
            CHECK.due("below(1, " + w + ")", x.desk().below(1, w), OUTSIDE);
            CHECK.due("words(" + w + ")", x.desk().words(w), OUTSIDE);
        }
        int[] wrongPlaces = {0, -1, 10, Integer.MAX_VALUE, Integer.MIN_VALUE};
        for (int i : wrongPlaces) {
            CHECK.due("code(21, " + i + ")", x.desk().code(21, i), OUTSIDE);
        }
        int[][] wrongCodes = {{9, 0, 0, 0}, {0, 8, 0, 0}, {0, 0, 7, 0}, {0, 0, 0, 6}, {-1, 0, 0, 0},
            {0, -1, 0, 0}, {0, 0, -1, 0}, {0, 0, 0, -1}, {Integer.MAX_VALUE, 0, 0, 0},
            {0, 0, 0, Integer.MIN_VALUE}};
        for (int[] c : wrongCodes) {
            CHECK.due("ofCode(" + c[0] + ", " + c[1] + ", " + c[2] + ", " + c[3] + ")",
                    x.desk().ofCode(c[0], c[1], c[2], c[3]), OUTSIDE);
        }
    }

    private static void asDocumented(Fresh x, int told) {
        int[] w = Oracle.read(told);
        CHECK.due("plain(" + told + ")", x.desk().plain(told), Oracle.plain(w));
        CHECK.due("length(" + told + ")", x.desk().length(told), Oracle.length(w));
        for (int i = 1; i <= 9; i++) {
            CHECK.due("code(" + told + ", " + i + ")", x.desk().code(told, i), Oracle.code(w, i));
        }
        CHECK.due("descents(" + told + ")", x.desk().descents(told), Oracle.descents(w));
        CHECK.due("inverse(" + told + ")", x.desk().inverse(told), Oracle.inverse(w));
    }

    private static void pairs(Fresh x, int u, int v) {
        int[] one = Oracle.read(u);
        int[] other = Oracle.read(v);
        CHECK.due("after(" + u + ", " + v + ")", x.desk().after(u, v), Oracle.after(one, other));
        CHECK.due("below(" + u + ", " + v + ")", x.desk().below(u, v), Oracle.below(one, other) ? 1 : 0);
    }

    private static void codes(Fresh x) {
        Set<Integer> unlike = new HashSet<>();
        for (int c = 0; c < 3024; c++) {
            int[] code = {c % 9, c / 9 % 8, c / 72 % 7, c / 504};
            int w = x.desk().ofCode(code[0], code[1], code[2], code[3]);
            int[] digits = Oracle.read(w);
            CHECK.holds(w + " is plain", digits != null && Oracle.plain(digits) == w);
            for (int i = 1; i <= 9 && digits != null; i++) {
                CHECK.due("code " + i + " of " + w, Oracle.code(digits, i), i <= 4 ? code[i - 1] : 0);
            }
            unlike.add(w);
        }
        CHECK.due("ofCode answers", unlike.size(), 3024);
    }

    /** What is below v, is what longer and longer exchanges lead from to v. */
    private static void orders(Fresh x) {
        Map<Integer, Set<Integer>> above = new HashMap<>();
        List<Integer> all = Oracle.all(5);
        for (int u : all) {
            above.put(u, reached(u));
        }
        for (int u : all) {
            for (int v : all) {
                CHECK.due("below(" + u + ", " + v + ")", x.desk().below(u, v), above.get(u).contains(v) ? 1 : 0);
            }
        }
    }

    private static Set<Integer> reached(int from) {
        Set<Integer> seen = new HashSet<>();
        ArrayDeque<Integer> open = new ArrayDeque<>();
        open.add(from);
        while (!open.isEmpty()) {
            int told = open.remove();
            if (!seen.add(told)) {
                continue;
            }
            int[] w = Oracle.read(told);
            for (int i = 1; i <= 5; i++) {
                for (int j = i + 1; j <= 5; j++) {
                    if (w[i] < w[j]) {
                        int[] v = Oracle.exchanged(w, i, j);
                        open.add(v[1] * 10000 + v[2] * 1000 + v[3] * 100 + v[4] * 10 + v[5]);
                    }
                }
            }
        }
        return seen;
    }
}
