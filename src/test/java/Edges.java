import java.util.ArrayList;
import java.util.List;

/** Numbers at and beyond the ends of what the document allows. */
final class Edges {
    static final int LEAST = Integer.MIN_VALUE;
    static final int MOST = Integer.MAX_VALUE;

    /** A call with one of its numbers left open. */
    interface Call {
        long of(int n);
    }

    private Edges() {
    }

    /** What tells no permutation, for each reason that there is. */
    static List<Integer> noPermutations() {
        List<Integer> all = new ArrayList<>(List.of(
                0, -1, -12, -21, -123456789, LEAST,
                10, 20, 102, 120, 201, 1023, 1230, 12305, 123456780, 102345678,
                2, 3, 9, 13, 31, 23, 32, 124, 234, 1235, 5234, 12346, 12345679, 92345678,
                11, 22, 112, 122, 121, 211, 1224, 1123, 11111, 123455789, 112345678, 999999999,
                1000000000, 1023456789, 1234567890, 1234567891, 2013456789, 2134567890, 2147483646, MOST));
        for (int n = 2; n <= 9; n++) {
            all.addAll(List.of(leastOf(n) - 1, leastOf(n) + 1, greatestOf(n) - 1, greatestOf(n) + 1));
        }
        return all;
    }

    /** 1 to n in place, told with n digits. */
    static int leastOf(int n) {
        int told = 0;
        for (int k = 1; k <= n; k++) {
            told = told * 10 + k;
        }
        return told;
    }

    /** n down to 1. */
    static int greatestOf(int n) {
        int told = 0;
        for (int k = n; k >= 1; k--) {
            told = told * 10 + k;
        }
        return told;
    }

    /** The same permutation told with n digits; n is at least as many as it has. */
    static int toldWith(int n, int w) {
        int told = w;
        for (int k = Integer.toString(w).length() + 1; k <= n; k++) {
            told = told * 10 + k;
        }
        return told;
    }

    /** That each of these numbers is answered so. */
    static void each(Check check, String name, List<Integer> numbers, Call call, long due) {
        for (int n : numbers) {
            check.due(name + " with " + n, call.of(n), due);
        }
    }
}
