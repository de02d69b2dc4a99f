import java.util.ArrayList;
import java.util.HashMap;
import java.util.List;
import java.util.Map;

/** Promises 1 and 14 to 20. */
public final class SheetTest {
    private static final Check CHECK = new Check("SheetTest");
    private static final int OUTSIDE = SchubertDesk.OUTSIDE;
    private static final int STATE = SchubertDesk.STATE;
    private static final int OVER = SchubertDesk.OVER;
    private static final int NONE = SchubertDesk.NONE;
    private static final long LOST = SchubertDesk.LOST;
    private static final int LEAST = Integer.MIN_VALUE;
    private static final int MOST = Integer.MAX_VALUE;
    /** Six times it are four less than the greatest number that the sheet may hold. */
    private static final int SIXTH = 166666666;

    public static void main(String[] args) {
        newObject();
        ordinary();
        refusals();
        overByNumbers();
        overAtTheEnds();
        overByExponents();
        overByDifference();
        nothingLeftBehind();
        List<Integer> fit = Oracle.allFit();
        eachAlone(fit);
        manyAtOnce(fit);
        monomials(fit);
        for (int run = 1; run <= 600; run++) {
            new Walk(run, fit).go(CHECK);
        }
        CHECK.end();
    }

    private static void newObject() {
        SchubertDesk x = new SchubertDesk();
        CHECK.due("new: part(-1)", x.part(-1), 0);
        CHECK.due("new: part(0)", x.part(0), NONE);
        CHECK.due("new: times(1)", x.times(1), 0);
        CHECK.due("new: sheet(0, 0, 0, 0)", x.sheet(0, 0, 0, 0), 0);
        CHECK.due("new: difference(1)", x.difference(1), 0);
        CHECK.due("new: multiply(987612345)", x.multiply(987612345), 0);
        CHECK.due("new: wipe()", x.wipe(), 0);
        x.add(1, 1);
        CHECK.due("another new one", new SchubertDesk().wipe(), 0);
    }

    private static void ordinary() {
        SchubertDesk x = new SchubertDesk();
        CHECK.due("add(0, 132)", x.add(0, 132), 0);
        CHECK.due("add(2, 132)", x.add(2, 132), 2);
        CHECK.due("add(-2, 21)", x.add(-2, 21), 1);
        CHECK.due("sheet x2", x.sheet(0, 1, 0, 0), 2);
        CHECK.due("part(-1)", x.part(-1), 2);
        CHECK.due("part(0)", x.part(0), 21);
        CHECK.due("part(1)", x.part(1), 132);
        CHECK.due("part(2)", x.part(2), NONE);
        CHECK.due("part(max)", x.part(MOST), NONE);
        CHECK.due("times(213)", x.times(213), -2);
        CHECK.due("times(1243)", x.times(1243), 0);
        CHECK.due("difference(2)", x.difference(2), 1);
        CHECK.due("sheet 1", x.sheet(0, 0, 0, 0), 2);
        CHECK.due("part(-1)", x.part(-1), 1);
        CHECK.due("part(0)", x.part(0), 1);
        CHECK.due("times(1)", x.times(1), 2);
        CHECK.due("difference(3)", x.difference(3), 0);
        CHECK.due("times(1)", x.times(1), 0);
        CHECK.due("add(1000, 12354)", x.add(1000, 12354), 4);
        CHECK.due("sheet x4", x.sheet(0, 0, 0, 1), 1000);
        CHECK.due("wipe()", x.wipe(), 4);
        CHECK.due("part(-1)", x.part(-1), 0);
        CHECK.due("sheet far", x.sheet(MOST, MOST, MOST, MOST), 0);
        CHECK.due("sheet beyond x1", x.sheet(9, 0, 0, 0), 0);
        CHECK.due("sheet beyond x2", x.sheet(0, 8, 0, 0), 0);
    }

    private static void refusals() {
        SchubertDesk x = new SchubertDesk();
        x.add(7, 1432);
        x.add(-3, 12354);
        Poly held = Sheets.times(7, 1432).plus(Sheets.times(-3, 12354), 1);
        CHECK.due("add(1001, 1)", x.add(1001, 1), OUTSIDE);
        CHECK.due("add(-1001, 1)", x.add(-1001, 1), OUTSIDE);
        CHECK.due("add(min, 123465)", x.add(LEAST, 123465), OUTSIDE);
        CHECK.due("add(1, 2)", x.add(1, 2), OUTSIDE);
        CHECK.due("add(1, 123465)", x.add(1, 123465), STATE);
        CHECK.due("add(0, 123456798)", x.add(0, 123456798), STATE);
        CHECK.due("multiply(0)", x.multiply(0), OUTSIDE);
        CHECK.due("multiply(123465)", x.multiply(123465), STATE);
        CHECK.due("multiply(987612345)", x.multiply(987612345), OVER);
        int[] wrong = {0, -1, 4, LEAST, MOST};
        for (int i : wrong) {
            CHECK.due("difference(" + i + ")", x.difference(i), OUTSIDE);
        }
        CHECK.due("sheet(-1, 0, 0, 0)", x.sheet(-1, 0, 0, 0), LOST);
        CHECK.due("sheet(0, -1, 0, 0)", x.sheet(0, -1, 0, 0), LOST);
        CHECK.due("sheet(0, 0, -1, 0)", x.sheet(0, 0, -1, 0), LOST);
        CHECK.due("sheet(0, 0, 0, min)", x.sheet(0, 0, 0, LEAST), LOST);
        CHECK.due("part(-2)", x.part(-2), OUTSIDE);
        CHECK.due("part(min)", x.part(LEAST), OUTSIDE);
        CHECK.due("times(2)", x.times(2), LOST);
        CHECK.due("times(123465)", x.times(123465), LOST);
        CHECK.holds("refusals change nothing", Sheets.has(x, held));
        CHECK.due("part(-1)", x.part(-1), 2);
    }

    /** A number may be 1000000000 or -1000000000, and no more. */
    private static void overByNumbers() {
        for (int sign = -1; sign <= 1; sign += 2) {
            SchubertDesk x = new SchubertDesk();
            Sheets.grow(x, sign * SIXTH);
            CHECK.due("grown", x.sheet(0, 0, 0, 0), sign * SIXTH);
            for (int k = 1; k <= 4; k++) {
                CHECK.due("multiply(132)", x.multiply(132), k + 1);
            }
            CHECK.due("6 times it", x.sheet(2, 2, 0, 0), sign * 999999996L);
            CHECK.due("10 times it", x.multiply(132), OVER);
            CHECK.due("unchanged", x.sheet(2, 2, 0, 0), sign * 999999996L);
            CHECK.due("above the limit", x.add(sign * 5, 3412), OVER);
            CHECK.due("at the limit", x.add(sign * 4, 3412), 5);
            CHECK.due("sheet at the limit", x.sheet(2, 2, 0, 0), sign * 1000000000L);
            CHECK.due("multiply(1) at the limit", x.multiply(1), 5);
            CHECK.due("add(0, 3412) at the limit", x.add(0, 3412), 5);
            CHECK.due("one more", x.add(sign, 3412), OVER);
            // S of 14523 has x1^2 x2^2 among others: none of them may change, if one is over.
            Poly before = fourTimes132(sign * SIXTH).plus(Sheets.times(sign * 4, 3412), 1);
            CHECK.holds("14523 has it", Oracle.single(Oracle.read(14523)).at(List.of(2, 2, 0, 0)) > 0);
            CHECK.due("over in one of many", x.add(sign, 14523), OVER);
            CHECK.holds("nothing changed", Sheets.has(x, before));
            CHECK.due("times(3412)", x.times(3412), sign * (2 * SIXTH + 4));
            CHECK.due("one less", x.add(-sign, 3412), 5);
            CHECK.due("sheet one less", x.sheet(2, 2, 0, 0), sign * 999999999L);
        }
    }

    /** A number, times S of 132 four times. */
    private static Poly fourTimes132(long number) {
        Poly product = Sheets.times(number, 1);
        for (int k = 0; k < 4; k++) {
            product = product.times(Sheets.times(1, 132));
        }
        return product;
    }

    /** The same limits in the first cell and in the last one. */
    private static void overAtTheEnds() {
        for (int sign = -1; sign <= 1; sign += 2) {
            SchubertDesk x = new SchubertDesk();
            Sheets.grow(x, sign * 1000000000);
            CHECK.due("the constant", x.sheet(0, 0, 0, 0), sign * 1000000000L);
            CHECK.due("one more", x.add(sign, 1), OVER);
            CHECK.due("1000 more", x.add(sign * 1000, 1), OVER);
            CHECK.due("times(1)", x.times(1), sign * 1000000000L);
            CHECK.due("to the last cell", x.multiply(987612345), 1);
            CHECK.due("one more there", x.add(sign, 987612345), OVER);
            CHECK.due("the last cell", x.sheet(8, 7, 6, 5), sign * 1000000000L);
            CHECK.due("times(987612345)", x.times(987612345), sign * 1000000000L);
            CHECK.due("less there", x.add(sign * -1000, 987612345), 1);
            CHECK.due("less by 1000", x.sheet(8, 7, 6, 5), sign * 999999000L);
            CHECK.due("back to it", x.add(sign * 1000, 987612345), 1);
        }
    }

    /** What a call leaves behind, a refused one too, must not show in the next ones. */
    private static void nothingLeftBehind() {
        SchubertDesk x = new SchubertDesk();
        CHECK.due("add(-1000, 1432)", x.add(-1000, 1432), 5);
        CHECK.due("add(1000, 12354)", x.add(1000, 12354), 9);
        CHECK.due("part(-1)", x.part(-1), 2);
        CHECK.due("wipe()", x.wipe(), 9);
        CHECK.due("part(-1) of 0", x.part(-1), 0);
        CHECK.due("times(1432) of 0", x.times(1432), 0);
        CHECK.due("difference(1) of 0", x.difference(1), 0);
        x.add(1, 231);
        CHECK.due("wipe() again", x.wipe(), 1);
        CHECK.due("difference(2) of 0", x.difference(2), 0);
        CHECK.due("sheet of 0", x.sheet(1, 0, 0, 0), 0);
        Sheets.grow(x, 1000000000);
        CHECK.due("multiply(231)", x.multiply(231), 1);
        CHECK.due("add(1, 231) over", x.add(1, 231), OVER);
        CHECK.due("difference(2) after it", x.difference(2), 1);
        CHECK.due("x1 as it was", x.sheet(1, 0, 0, 0), 1000000000);
        CHECK.due("part(0)", x.part(0), 21);
        CHECK.due("multiply(2) refused", x.multiply(2), OUTSIDE);
        CHECK.due("terms(15432) beside it", x.terms(15432), 14);
        CHECK.due("times(21)", x.times(21), 1000000000);
        CHECK.due("add(-1, 21)", x.add(-1, 21), 1);
        CHECK.due("times(21) less", x.times(21), 999999999);
        CHECK.due("difference(1)", x.difference(1), 1);
        CHECK.due("times(21) none", x.times(21), 0);
        CHECK.due("times(1)", x.times(1), 999999999);
    }

    /** Each of the sheet's monomials alone, put there as a sum of parts, and its differences. */
    private static void monomials(List<Integer> fit) {
        Map<List<Integer>, Integer> ofCode = new HashMap<>();
        for (int w : fit) {
            int[] d = Oracle.read(w);
            ofCode.put(List.of(Oracle.code(d, 1), Oracle.code(d, 2), Oracle.code(d, 3),
                    Oracle.code(d, 4)), w);
        }
        for (List<Integer> e : ofCode.keySet()) {
            Poly alone = new Poly();
            alone.add(e, 1);
            Map<Integer, Long> sum = sumOf(alone, ofCode);
            for (int i = 1; i <= 3; i++) {
                SchubertDesk x = new SchubertDesk();
                sum.forEach((w, c) -> x.add((int) (long) c, w));
                CHECK.due("sheet " + e, x.sheet(e.get(0), e.get(1), e.get(2), e.get(3)), 1);
                CHECK.due("part(-1) of " + e, x.part(-1), sum.size());
                Poly due = alone.difference(i);
                CHECK.due("difference(" + i + ") of " + e, x.difference(i), due.size());
                due.numbers.forEach((f, c) -> CHECK.due("difference of " + e + " at " + f,
                        x.sheet(f.get(0), f.get(1), f.get(2), f.get(3)), c));
            }
        }
    }

    private static Map<Integer, Long> sumOf(Poly f, Map<List<Integer>, Integer> ofCode) {
        Map<Integer, Long> sum = new HashMap<>();
        Poly rest = f;
        while (rest.size() > 0) {
            List<Integer> last = null;
            for (List<Integer> e : rest.numbers.keySet()) {
                last = last == null || isBehind(e, last) ? e : last;
            }
            int w = ofCode.get(last);
            sum.put(w, rest.at(last));
            rest = rest.plus(Oracle.single(Oracle.read(w)), -rest.at(last));
        }
        return sum;
    }

    private static boolean isBehind(List<Integer> e, List<Integer> f) {
        for (int k = 3; k >= 0; k--) {
            if (!e.get(k).equals(f.get(k))) {
                return e.get(k) > f.get(k);
            }
        }
        return false;
    }

    private static void overByExponents() {
        int[] full = {912345678, 192345678, 129345678, 123945678};
        SchubertDesk x = new SchubertDesk();
        x.add(1, 987612345);
        CHECK.due("times 1", x.multiply(1), 1);
        CHECK.due("x1 once more", x.multiply(21), OVER);
        CHECK.due("as before", x.sheet(8, 7, 6, 5), 1);
        for (int w : full) {
            SchubertDesk y = new SchubertDesk();
            y.add(1, w);
            int had = y.terms(w);
            CHECK.due("multiply(12354) of " + w, y.multiply(12354), OVER);
            CHECK.due("wipe() of " + w, y.wipe(), had);
        }
        SchubertDesk z = new SchubertDesk();
        z.add(1, 912345678);
        z.add(-1, 912345678);
        z.add(1, 1);
        CHECK.due("what went is no hindrance", z.multiply(912345678), 1);
        CHECK.due("x1 to the 8", z.sheet(8, 0, 0, 0), 1);
        CHECK.due("difference(1)", z.difference(1), 8);
        CHECK.due("x2 to the 7", z.sheet(0, 7, 0, 0), 1);
        CHECK.due("x2 once more", z.multiply(132), OVER);
        CHECK.due("x1 alone once more", z.multiply(21), 8);
    }

    /** A difference adds numbers up, so it may be over: that of x1^2 (x1 + x2)^4 is (x1 + x2)^5. */
    private static void overByDifference() {
        for (int sign = -1; sign <= 1; sign += 2) {
            SchubertDesk x = new SchubertDesk();
            Sheets.grow(x, sign * SIXTH);
            x.multiply(312);
            for (int k = 0; k < 4; k++) {
                x.multiply(132);
            }
            Poly before = fourTimes132(sign * SIXTH).times(Sheets.times(1, 312));
            CHECK.holds("the due one is over", before.difference(1).isOver() && !before.isOver());
            CHECK.due("difference(1)", x.difference(1), OVER);
            CHECK.holds("nothing changed", Sheets.has(x, before));
            CHECK.due("difference(3)", x.difference(3), 0);
            CHECK.due("wipe()", x.wipe(), 0);
        }
    }

    private static void eachAlone(List<Integer> fit) {
        for (int w : fit) {
            SchubertDesk x = new SchubertDesk();
            CHECK.due("add(-5, " + w + ")", x.add(-5, w), Oracle.single(Oracle.read(w)).size());
            CHECK.due("part(-1) of " + w, x.part(-1), 1);
            CHECK.due("part(0) of " + w, x.part(0), w);
            CHECK.due("times(" + w + ")", x.times(w), -5);
        }
    }

    /** As many as the calls of one object allow to add and to ask for, from all over the list. */
    private static void manyAtOnce(List<Integer> fit) {
        List<Integer> order = new ArrayList<>(fit);
        order.sort(null);
        int groups = 24;
        for (int group = 0; group < groups; group++) {
            SchubertDesk x = new SchubertDesk();
            int count = order.size() / groups;
            for (int k = count - 1; k >= 0; k--) {
                x.add(k + 1, order.get(k * groups + group));
            }
            CHECK.due("part(-1) of many", x.part(-1), count);
            for (int k = 0; k < count; k++) {
                int w = order.get(k * groups + group);
                CHECK.due("part(" + k + ")", x.part(k), w);
                CHECK.due("times(" + w + ")", x.times(w), k + 1);
            }
            CHECK.due("part(" + count + ")", x.part(count), NONE);
        }
    }

    /** A sheet that grows by calls drawn from a row of numbers, beside the oracle's. */
    private static final class Walk {
        private final List<Integer> fit;
        private final SchubertDesk x = new SchubertDesk();
        private final int run;
        private long seed;
        private Poly due = new Poly();

        Walk(int run, List<Integer> fit) {
            this.run = run;
            this.fit = fit;
            this.seed = run * 7919L + 17;
        }

        /** All of the sheet is seen at the end, as far as the calls of one object allow. */
        void go(Check check) {
            int calls = 1 + draw(24);
            for (int call = 0; call < calls; call++) {
                act(check, run + "." + call + " ");
            }
            int left = Fresh.CALLS - calls - 1;
            if (due.size() < left) {
                check.holds(run + " sheet", Sheets.has(x, due));
                left -= due.size() + 1;
            }
            parts(check, run + " ", left);
            check.due(run + " wipe()", x.wipe(), due.size());
        }

        private void act(Check check, String at) {
            int kind = draw(10);
            int w = drawn();
            int[] digits = Oracle.read(w);
            if (kind < 5) {
                int c = draw(2001) - 1000;
                take(check, at + "add(" + c + ", " + w + ")", x.add(c, w), due.plus(Oracle.single(digits), c));
            } else if (kind < 8) {
                take(check, at + "multiply(" + w + ")", x.multiply(w), due.times(Oracle.single(digits)));
            } else {
                int i = 1 + draw(3);
                take(check, at + "difference(" + i + ")", x.difference(i), due.difference(i));
            }
        }

        private void take(Check check, String call, int got, Poly next) {
            check.due(call, got, next.isOver() ? OVER : next.size());
            if (!next.isOver()) {
                due = next;
            }
        }

        /** The parts are in order, and add up to the sheet: in one way only. */
        private void parts(Check check, String at, int left) {
            Poly sum = new Poly();
            int count = left > 0 ? x.part(-1) : 0;
            if (2 * count + 2 > left) {
                return;
            }
            int before = 0;
            for (int k = 0; k < count; k++) {
                int w = x.part(k);
                long times = x.times(w);
                check.holds(at + "part(" + k + ") in order", w > before);
                check.holds(at + "part(" + k + ") plain", Oracle.plain(Oracle.read(w)) == w);
                check.holds(at + "times(" + w + ") not 0", times != 0 && times != LOST);
                sum = sum.plus(Oracle.single(Oracle.read(w)), times);
                before = w;
            }
            check.due(at + "part(" + count + ")", x.part(count), NONE);
            check.holds(at + "parts add up", sum.numbers.equals(due.numbers));
        }

        /** Small ones more often, for products of them stay in the sheet. */
        private int drawn() {
            List<Integer> few = List.of(1, 21, 132, 231, 312, 321, 1243, 1324, 1342, 1423, 1432, 2143,
                    2413, 3142, 12354, 12453, 13254, 14253, 15243, 123645, 124635);
            return draw(3) > 0 ? few.get(draw(few.size())) : fit.get(draw(fit.size()));
        }

        private int draw(int below) {
            seed = seed * 6364136223846793005L + 1442695040888963407L;
            return (int) ((seed >>> 33) % below);
        }
    }
}
