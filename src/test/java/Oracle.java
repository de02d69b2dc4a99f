import java.util.ArrayList;
import java.util.Arrays;
import java.util.HashMap;
import java.util.List;
import java.util.Map;
import java.util.TreeSet;

/**
 * The document's terms once more, word for word and without regard to speed, on maps and lists.
 * A permutation is an array of its digits 1 to 9 (index 0 is not used).
 */
final class Oracle {
    private static final Map<Integer, Poly> KNOWN = new HashMap<>();

    private Oracle() {
    }

    // ---- 1 permutations

    static int[] read(int told) {
        if (told < 1) {
            return null;
        }
        String text = Integer.toString(told);
        if (text.length() > 9) {
            return null;
        }
        int[] w = inPlace();
        for (int k = 1; k <= text.length(); k++) {
            if (text.indexOf((char) ('0' + k)) < 0) {
                return null;
            }
            w[k] = text.charAt(k - 1) - '0';
        }
        return w;
    }

    static int[] inPlace() {
        return new int[] {0, 1, 2, 3, 4, 5, 6, 7, 8, 9};
    }

    static int plain(int[] w) {
        StringBuilder text = new StringBuilder();
        for (int k = 1; k <= 9; k++) {
            text.append(w[k]);
        }
        for (int k = 9; k > 1 && text.charAt(k - 1) - '0' == k; k--) {
            text.setLength(k - 1);
        }
        return Integer.parseInt(text.toString());
    }

    static int[] exchanged(int[] w, int i, int j) {
        int[] v = w.clone();
        v[i] = w[j];
        v[j] = w[i];
        return v;
    }

    static int length(int[] w) {
        int twos = 0;
        for (int i = 1; i <= 9; i++) {
            for (int j = i + 1; j <= 9; j++) {
                twos += w[i] > w[j] ? 1 : 0;
            }
        }
        return twos;
    }

    static int code(int[] w, int i) {
        int less = 0;
        for (int j = i + 1; j <= 9; j++) {
            less += w[j] < w[i] ? 1 : 0;
        }
        return less;
    }

    static int descents(int[] w) {
        int set = 0;
        for (int i = 1; i <= 8; i++) {
            set += w[i] > w[i + 1] ? 1 << i : 0;
        }
        return set;
    }

    static boolean isFit(int[] w) {
        return descents(w) < 32;
    }

    static boolean isSmall(int[] w) {
        return plain(w) < 100000;
    }

    static int inverse(int[] w) {
        int[] v = inPlace();
        for (int i = 1; i <= 9; i++) {
            v[w[i]] = i;
        }
        return plain(v);
    }

    static int after(int[] u, int[] v) {
        int[] w = inPlace();
        for (int i = 1; i <= 9; i++) {
            w[i] = u[v[i]];
        }
        return plain(w);
    }

    static boolean below(int[] u, int[] v) {
        for (int p = 1; p <= 9; p++) {
            for (int q = 1; q <= 9; q++) {
                int ofU = 0;
                int ofV = 0;
                for (int k = 1; k <= p; k++) {
                    ofU += u[k] >= q ? 1 : 0;
                    ofV += v[k] >= q ? 1 : 0;
                }
                if (ofU > ofV) {
                    return false;
                }
            }
        }
        return true;
    }

    /** Walks of neighbours' exchanges from all in place, by how many steps they have. */
    static int words(int[] w) {
        Map<Integer, Integer> ways = new HashMap<>();
        ways.put(1, 1);
        for (int step = length(w); step > 0; step--) {
            Map<Integer, Integer> next = new HashMap<>();
            for (Map.Entry<Integer, Integer> entry : ways.entrySet()) {
                for (int i = 1; i <= 4; i++) {
                    int to = plain(exchanged(read(entry.getKey()), i, i + 1));
                    next.merge(to, entry.getValue(), Integer::sum);
                }
            }
            ways = next;
        }
        return ways.getOrDefault(plain(w), 0);
    }

    /** All permutations of n digits, as numbers of n digits. */
    static List<Integer> all(int n) {
        List<Integer> found = new ArrayList<>();
        grow(n, 0, 0, found);
        return found;
    }

    private static void grow(int n, int told, int used, List<Integer> found) {
        if (Integer.bitCount(used) == n) {
            found.add(told);
            return;
        }
        for (int d = 1; d <= n; d++) {
            if ((used >> d & 1) == 0) {
                grow(n, told * 10 + d, used | 1 << d, found);
            }
        }
    }

    /** All fit ones, as plain numbers. */
    static List<Integer> allFit() {
        List<Integer> found = new ArrayList<>();
        for (int told : all(9)) {
            if (isFit(read(told))) {
                found.add(plain(read(told)));
            }
        }
        return found;
    }

    // ---- 2 polynomials

    /** S by the words of the document, with a division of polynomials for each difference. */
    static Poly single(int[] w) {
        Poly known = KNOWN.get(plain(w));
        if (known != null) {
            return known;
        }
        Poly made = null;
        for (int i = 1; i <= 3 && made == null; i++) {
            if (code(w, i) < code(w, i + 1)) {
                made = single(exchanged(w, i, i + 1)).difference(i);
            }
        }
        if (made == null) {
            made = new Poly();
            made.add(List.of(code(w, 1), code(w, 2), code(w, 3), code(w, 4)), 1);
        }
        KNOWN.put(plain(w), made);
        return made;
    }

    // ---- 4 crosses

    static boolean hasCross(int crosses, int row, int place) {
        int bit = 0;
        for (int i = 1; i <= 4; i++) {
            for (int j = 1; j <= 5 - i; j++) {
                if (i == row && j == place) {
                    return (crosses >> bit & 1) == 1;
                }
                bit++;
            }
        }
        return false;
    }

    static int flipped(int crosses, int row, int place) {
        int bit = 0;
        for (int i = 1; i < row; i++) {
            bit += 5 - i;
        }
        return crosses ^ (1 << (bit + place - 1));
    }

    static int[] made(int crosses) {
        int[] w = inPlace();
        for (int i = 1; i <= 4; i++) {
            for (int j = 5 - i; j >= 1; j--) {
                if (hasCross(crosses, i, j)) {
                    w = exchanged(w, i + j - 1, i + j);
                }
            }
        }
        return w;
    }

    static boolean isTight(int crosses) {
        return length(made(crosses)) == Integer.bitCount(crosses);
    }

    static List<Integer> dreams(int[] w) {
        List<Integer> found = new ArrayList<>();
        for (int crosses = 0; crosses < 1024; crosses++) {
            if (isTight(crosses) && Arrays.equals(made(crosses), w)) {
                found.add(crosses);
            }
        }
        return found;
    }

    static List<Integer> ladders(int crosses) {
        TreeSet<Integer> found = new TreeSet<>();
        for (int i = 1; i <= 4; i++) {
            for (int j = 1; j <= 5 - i; j++) {
                for (int h = 1; h < i; h++) {
                    boolean is = hasCross(crosses, i, j) && !hasCross(crosses, i, j + 1)
                            && !hasCross(crosses, h, j) && !hasCross(crosses, h, j + 1);
                    for (int between = h + 1; between < i; between++) {
                        is &= hasCross(crosses, between, j) && hasCross(crosses, between, j + 1);
                    }
                    if (is) {
                        found.add(flipped(flipped(crosses, i, j), h, j + 1));
                    }
                }
            }
        }
        return new ArrayList<>(found);
    }

    // ---- 5 rises, steps

    static List<Integer> rises(int[] w, int r) {
        TreeSet<Integer> found = new TreeSet<>();
        for (int a = 1; a <= 9; a++) {
            for (int b = 1; b <= 9; b++) {
                int[] v = exchanged(w, a, b);
                if (a <= r && b > r && length(v) == length(w) + 1) {
                    found.add(plain(v));
                }
            }
        }
        return new ArrayList<>(found);
    }

    /** 0, if w has no descent. */
    static int stepR(int[] w) {
        int r = 0;
        for (int i = 1; i <= 8; i++) {
            r = w[i] > w[i + 1] ? i : r;
        }
        return r;
    }

    static int stepS(int[] w) {
        int s = 9;
        while (w[s] >= w[stepR(w)]) {
            s--;
        }
        return s;
    }

    static List<Integer> heirs(int[] w) {
        int r = stepR(w);
        int[] v = exchanged(w, r, stepS(w));
        TreeSet<Integer> found = new TreeSet<>();
        for (int q = 1; q < r; q++) {
            if (length(exchanged(v, q, r)) == length(w)) {
                found.add(plain(exchanged(v, q, r)));
            }
        }
        return new ArrayList<>(found);
    }

    // ---- 6 shapes

    static boolean avoids(int[] w, int how) {
        for (int a = 1; a <= 9; a++) {
            for (int b = a + 1; b <= 9; b++) {
                for (int c = b + 1; c <= 9; c++) {
                    if (how == 1 && w[a] < w[c] && w[c] < w[b]) {
                        return false;
                    }
                    for (int d = c + 1; d <= 9; d++) {
                        if (how == 2 && w[b] < w[a] && w[a] < w[d] && w[d] < w[c]) {
                            return false;
                        }
                    }
                }
            }
        }
        return true;
    }

    /** What a call answers of a list: how many (k -1), the k-th, or NONE. */
    static int listed(List<Integer> found, int k) {
        if (k == -1) {
            return found.size();
        }
        return k < found.size() ? found.get(k) : SchubertDesk.NONE;
    }
}
