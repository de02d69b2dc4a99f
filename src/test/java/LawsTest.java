import java.util.ArrayDeque;
import java.util.Arrays;
import java.util.HashMap;
import java.util.HashSet;
import java.util.List;
import java.util.Map;
import java.util.Set;

/**
 * Laws that Schubert polynomials are known to keep, between answers of unlike promises. A term of the
 * document that were read wrongly, and so in the oracle too, would break one of them.
 */
public final class LawsTest {
    private static final Check CHECK = new Check("LawsTest");
    private static final int[] NEIGHBOURS = {0, 21, 132, 1243, 12354};
    private static final int[][] POINTS = {{1, 1, 1, 1}, {3, -2, 1, 2}, {-1, 2, 3, -3}, {2, 3, -3, 1}};
    private static final int ALL_TURNED = 987654321;
    private static final Fresh ASK = new Fresh();

    public static void main(String[] args) {
        List<Integer> fit = Oracle.allFit();
        for (int w : fit) {
            codeTellsAll(w);
            stepsAddUp(w);
            differencesTakeADescentAway(w);
            oneTermIfNoneOfThree(w);
            oneDescentIsAQuotient(w);
            if (w <= 87654321) {
                neighboursTimesAreRises(w);
            }
        }
        for (int w : Oracle.all(5)) {
            dreamsAreTerms(w);
            laddersReachAllDreams(w);
            wordsByHooks(w);
        }
        for (int u : Oracle.all(4)) {
            for (int v : Oracle.all(4)) {
                productsEitherWay(u, v);
            }
        }
        List<Integer> nine = Oracle.all(9);
        for (int k = 0; k < nine.size(); k += 173) {
            afterAndInverse(nine.get(k), nine.get((int) (k * 7919L % nine.size())));
        }
        differencesInEitherOrder(fit);
        CHECK.end();
    }

    // ---- 1 permutations

    private static void afterAndInverse(int u, int v) {
        int w = ASK.desk().after(u, v);
        int back = ASK.desk().inverse(u);
        CHECK.due(u + " after its inverse", ASK.desk().after(u, back), 1);
        CHECK.due(u + " ahead of its inverse", ASK.desk().after(back, u), 1);
        CHECK.due("inverse of " + u + " after " + v, ASK.desk().inverse(w),
                ASK.desk().after(ASK.desk().inverse(v), back));
        CHECK.due("length of the inverse of " + u, ASK.desk().length(back), ASK.desk().length(u));
        CHECK.due("length of " + u + " turned", ASK.desk().length(ASK.desk().after(ALL_TURNED, u)),
                36 - ASK.desk().length(u));
        CHECK.due(u + ", " + v + " and their inverses, below", ASK.desk().below(back, ASK.desk().inverse(v)),
                ASK.desk().below(u, v));
        CHECK.due(u + ", " + v + " turned, below", ASK.desk().below(ASK.desk().after(ALL_TURNED, v),
                ASK.desk().after(ALL_TURNED, u)), ASK.desk().below(u, v));
        int sum = 0;
        for (int i = 1; i <= 9; i++) {
            sum += ASK.desk().code(u, i);
        }
        CHECK.due("code of " + u + " adds up", sum, ASK.desk().length(u));
    }

    private static void codeTellsAll(int w) {
        SchubertDesk x = new SchubertDesk();
        CHECK.due("of the code of " + w, x.ofCode(x.code(w, 1), x.code(w, 2), x.code(w, 3), x.code(w, 4)), w);
    }

    /** As many as standard fillings of the code's shape, and more if it has 2, 1, 4, 3. */
    private static void wordsByHooks(int w) {
        long fillings = fillings(sortedCode(w));
        int words = ASK.desk().words(w);
        boolean avoids = ASK.desk().avoids(w, 2) == 1;
        CHECK.holds("words(" + w + ") " + words + ", fillings " + fillings,
                avoids ? words == fillings : words > fillings);
    }

    private static int[] sortedCode(int w) {
        int[] shape = new int[5];
        for (int i = 1; i <= 5; i++) {
            shape[5 - i] = ASK.desk().code(w, i);
        }
        Arrays.sort(shape);
        return new int[] {shape[4], shape[3], shape[2], shape[1], shape[0]};
    }

    /** By the lengths of the hooks. */
    private static long fillings(int[] shape) {
        long above = 1;
        long hooks = 1;
        int boxes = 0;
        for (int row = 0; row < shape.length; row++) {
            for (int place = 0; place < shape[row]; place++) {
                boxes++;
                above *= boxes;
                int hook = shape[row] - place;
                for (int below = row + 1; below < shape.length && shape[below] > place; below++) {
                    hook++;
                }
                hooks *= hook;
            }
        }
        return above / hooks;
    }

    // ---- 2, 5: steps

    /** S of w is xr times S of v, and S of each heir. */
    private static void stepsAddUp(int w) {
        SchubertDesk x = new SchubertDesk();
        if (w == 1) {
            return;
        }
        int r = x.step(w, -3);
        int v = x.step(w, 0);
        int heirs = x.step(w, -1);
        for (int[] p : POINTS) {
            long sum = p[r - 1] * x.value(v, p[0], p[1], p[2], p[3]);
            for (int k = 1; k <= heirs; k++) {
                sum += x.value(x.step(w, k), p[0], p[1], p[2], p[3]);
            }
            CHECK.due("value of " + w + " by its step", x.value(w, p[0], p[1], p[2], p[3]), sum);
        }
    }

    // ---- 3, 5: rises

    /** S of w by S of the exchange at r, r + 1 is the sum of all rises by r, each once. */
    private static void neighboursTimesAreRises(int w) {
        for (int r = 1; r <= 4; r++) {
            SchubertDesk x = new SchubertDesk();
            x.add(1, w);
            x.multiply(NEIGHBOURS[r]);
            int rises = x.rise(w, r, -1);
            CHECK.due("parts of " + w + " by " + NEIGHBOURS[r], x.part(-1), rises);
            for (int k = 0; k < rises; k++) {
                int v = x.rise(w, r, k);
                CHECK.due("part " + k + " of " + w + " by " + NEIGHBOURS[r], x.part(k), v);
                CHECK.due("times " + v + " in " + w + " by " + NEIGHBOURS[r], x.times(v), 1);
                CHECK.due(w + " below its rise " + v, x.below(w, v), 1);
                CHECK.due(v + " below what it rose from", x.below(v, w), 0);
            }
        }
    }

    // ---- 3: differences, products

    private static void differencesTakeADescentAway(int w) {
        for (int i = 1; i <= 3; i++) {
            SchubertDesk x = new SchubertDesk();
            x.add(7, w);
            boolean falls = (x.descents(w) >> i & 1) == 1;
            int less = x.after(w, NEIGHBOURS[i]);
            CHECK.due("difference(" + i + ") of " + w, x.difference(i), falls ? x.terms(less) : 0);
            CHECK.due("its parts", x.part(-1), falls ? 1 : 0);
            CHECK.due("its part", x.part(0), falls ? less : SchubertDesk.NONE);
            CHECK.due("how many times", x.times(less), falls ? 7 : 0);
        }
    }

    /** By 1, 2, 1 as by 2, 1, 2; by 2, 3, 2 as by 3, 2, 3; by 1, 3 as by 3, 1. */
    private static void differencesInEitherOrder(List<Integer> fit) {
        int[][] one = {{1, 2, 1}, {2, 3, 2}, {1, 3}};
        int[][] other = {{2, 1, 2}, {3, 2, 3}, {3, 1}};
        for (int from = 0; from + 50 <= fit.size(); from += 50) {
            for (int k = 0; k < one.length; k++) {
                SchubertDesk x = sumOf(fit, from);
                SchubertDesk y = sumOf(fit, from);
                differAll(x, one[k]);
                differAll(y, other[k]);
                int parts = x.part(-1);
                CHECK.due("parts after either order", y.part(-1), parts);
                for (int n = 0; n < parts; n++) {
                    int w = x.part(n);
                    CHECK.due("part(" + n + ") after either order", y.part(n), w);
                    CHECK.due("times(" + w + ") after either order", y.times(w), x.times(w));
                }
                CHECK.due("numbers after either order", y.wipe(), x.wipe());
            }
        }
    }

    private static SchubertDesk sumOf(List<Integer> fit, int from) {
        SchubertDesk x = new SchubertDesk();
        for (int k = 0; k < 50; k++) {
            x.add(k % 2 == 0 ? 1 + k : -k, fit.get(from + k));
        }
        return x;
    }

    private static void differAll(SchubertDesk x, int[] by) {
        for (int i : by) {
            x.difference(i);
        }
    }

    /** The parts of a product are there more than 0 times, whichever factor comes first. */
    private static void productsEitherWay(int u, int v) {
        SchubertDesk x = new SchubertDesk();
        SchubertDesk y = new SchubertDesk();
        x.add(1, u);
        y.add(1, v);
        CHECK.due(u + " by " + v, x.multiply(v), y.multiply(u));
        int parts = x.part(-1);
        CHECK.due("parts of " + u + " by " + v, y.part(-1), parts);
        long[] sums = new long[POINTS.length];
        for (int k = 0; k < parts; k++) {
            int w = x.part(k);
            long times = x.times(w);
            CHECK.holds(w + " in " + u + " by " + v + ": " + times, times > 0);
            CHECK.due(w + " in " + v + " by " + u, y.times(w), times);
            CHECK.due("length of " + w, x.length(w), x.length(u) + x.length(v));
            for (int n = 0; n < POINTS.length; n++) {
                sums[n] += times * valueAt(w, POINTS[n]);
            }
        }
        for (int n = 0; n < POINTS.length; n++) {
            CHECK.due("value of " + u + " by " + v, sums[n], valueAt(u, POINTS[n]) * valueAt(v, POINTS[n]));
        }
    }

    private static long valueAt(int w, int[] p) {
        return ASK.desk().value(w, p[0], p[1], p[2], p[3]);
    }

    // ---- 2, 4: crosses

    /** Each set of crosses that makes w is a term of S of w: the crosses of row i are the exponent of xi. */
    private static void dreamsAreTerms(int w) {
        SchubertDesk x = new SchubertDesk();
        Map<List<Integer>, Integer> due = new HashMap<>();
        int dreams = x.dream(w, -1);
        for (int k = 0; k < dreams; k++) {
            int crosses = x.dream(w, k);
            CHECK.due("makes(" + crosses + ")", x.makes(crosses), x.plain(w));
            due.merge(List.of(Integer.bitCount(crosses & 15), Integer.bitCount(crosses >> 4 & 7),
                    Integer.bitCount(crosses >> 7 & 3), crosses >> 9), 1, Integer::sum);
        }
        CHECK.due("terms(" + w + ")", x.terms(w), due.size());
        due.forEach((e, count) -> CHECK.due("number of " + w + " at " + e,
                x.number(w, e.get(0), e.get(1), e.get(2), e.get(3)), count));
    }

    /** From the set that has the code's numbers in its rows, each from place 1 on. */
    private static void laddersReachAllDreams(int w) {
        int lowest = 0;
        int[] firstBit = {0, 4, 7, 9};
        for (int i = 1; i <= 4; i++) {
            lowest |= (1 << ASK.desk().code(w, i)) - 1 << firstBit[i - 1];
        }
        Set<Integer> seen = new HashSet<>();
        ArrayDeque<Integer> open = new ArrayDeque<>(List.of(lowest));
        while (!open.isEmpty()) {
            int crosses = open.remove();
            if (seen.add(crosses)) {
                int count = ASK.desk().ladder(crosses, -1);
                for (int k = 0; k < count; k++) {
                    open.add(ASK.desk().ladder(crosses, k));
                }
            }
        }
        int dreams = ASK.desk().dream(w, -1);
        CHECK.due("sets that ladders reach for " + w, seen.size(), dreams);
        for (int k = 0; k < dreams; k++) {
            CHECK.holds("ladders reach dream " + k + " of " + w, seen.contains(ASK.desk().dream(w, k)));
        }
    }

    // ---- 2, 6: shapes

    private static void oneTermIfNoneOfThree(int w) {
        CHECK.due("S of " + w + " has one term", ASK.desk().terms(w) == 1 ? 1 : 0, ASK.desk().avoids(w, 1));
    }

    /** With one descent r, S of w by the differences of x1 to xr is a determinant of powers. */
    private static void oneDescentIsAQuotient(int w) {
        SchubertDesk x = new SchubertDesk();
        if (Integer.bitCount(x.descents(w)) != 1) {
            return;
        }
        int r = Integer.numberOfTrailingZeros(x.descents(w));
        int[] powers = new int[r];
        int[] plain = new int[r];
        for (int k = 1; k <= r; k++) {
            powers[k - 1] = x.shape(w, k) + r - k;
            plain[k - 1] = r - k;
        }
        CHECK.due("no more parts of " + w, x.shape(w, r + 1), SchubertDesk.NONE);
        for (int[] p : POINTS) {
            CHECK.due("determinant of " + w, determinant(p, powers, 0, 0),
                    x.value(w, p[0], p[1], p[2], p[3]) * determinant(p, plain, 0, 0));
        }
    }

    /** Of the powers of each number: by its rows, without the columns that are used. */
    private static long determinant(int[] p, int[] powers, int row, int used) {
        if (row == powers.length) {
            return 1;
        }
        long sum = 0;
        int sign = 1;
        for (int k = 0; k < powers.length; k++) {
            if ((used >> k & 1) == 0) {
                sum += sign * power(p[row], powers[k]) * determinant(p, powers, row + 1, used | 1 << k);
                sign = -sign;
            }
        }
        return sum;
    }

    private static long power(int base, int exponent) {
        long all = 1;
        for (int k = 0; k < exponent; k++) {
            all *= base;
        }
        return all;
    }
}
