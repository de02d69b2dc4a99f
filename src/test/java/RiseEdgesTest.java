import java.util.List;

/** The boundary cases of the document's section 5: its terms, and promises 24 and 25. */
public final class RiseEdgesTest {
    private static final Check CHECK = new Check("RiseEdgesTest");
    private static final int OUTSIDE = SchubertDesk.OUTSIDE;
    private static final int STATE = SchubertDesk.STATE;
    private static final int NONE = SchubertDesk.NONE;
    private static final int LEAST = Edges.LEAST;
    private static final int MOST = Edges.MOST;
    private static final List<Integer> NO_PERMUTATIONS = Edges.noPermutations();

    public static void main(String[] args) {
        placesUpToR();
        placesAboveR();
        lengthJustOneMore();
        lastDescent();
        lastPlaceOfLess();
        heirsAheadOfR();
        heirsOfTheSameLength();
        riseOutside();
        riseEightDigits();
        riseByR();
        riseCount();
        riseFewer();
        riseLeastFirst();
        stepOutside();
        stepKinds();
        stepState();
        stepFewer();
        stepLeastFirst();
        stepNineDigits();
        CHECK.end();
    }

    private static void rises(int w, int r, int... due) {
        SchubertDesk x = new SchubertDesk();
        String call = "rise(" + w + ", " + r + ", ";
        CHECK.due(call + "-1)", x.rise(w, r, -1), due.length);
        for (int k = 0; k < due.length; k++) {
            CHECK.due(call + k + ")", x.rise(w, r, k), due[k]);
        }
        CHECK.due(call + due.length + ")", x.rise(w, r, due.length), NONE);
    }

    private static void step(int w, int r, int s, int v, int... heirs) {
        SchubertDesk x = new SchubertDesk();
        String call = "step(" + w + ", ";
        CHECK.due(call + "-3)", x.step(w, -3), r);
        CHECK.due(call + "-2)", x.step(w, -2), s);
        CHECK.due(call + "-1)", x.step(w, -1), heirs.length);
        CHECK.due(call + "0)", x.step(w, 0), v);
        for (int k = 1; k <= heirs.length; k++) {
            CHECK.due(call + k + ")", x.step(w, k), heirs[k - 1]);
        }
        CHECK.due(call + (heirs.length + 1) + ")", x.step(w, heirs.length + 1), NONE);
    }

    // ---- terms

    private static void placesUpToR() {
        CHECK.sentence("5: RISES: EXCHANGED at a, b with a up to r");
        rises(1, 1, 21);
        rises(1, 4, 12354);
        rises(1, 8, 123456798);
        // a is 1 or 2: 3 comes to the first place only by 1, 3.
        rises(213, 2, 231, 312);
        rises(213, 1, 312);
    }

    private static void placesAboveR() {
        CHECK.sentence("5: RISES: .. b above r");
        rises(132, 2, 231, 1423);
        rises(132, 1, 231, 312);
        rises(132, 3, 1342, 1423);
        // The digit behind the last one told comes too, the ninth place among them.
        rises(87654321, 1, 976543218);
        rises(87654321, 8, 876543291, 876543912, 876549213, 876593214, 876943215, 879543216, 896543217,
                976543218);
        rises(12345678, 8, 123456798);
    }

    private static void lengthJustOneMore() {
        CHECK.sentence("5: RISES: .. whose LENGTH is one more than that of w");
        // 1 and 3 of 123 change places with 3 more, 2 and 1 of 21 with one less.
        rises(123, 1, 21);
        rises(21, 1, 312);
        rises(321, 1, 4213);
        rises(321, 2, 3412, 4213);
        rises(321, 3, 3241, 3412, 4213);
    }

    private static void lastDescent() {
        CHECK.sentence("5: A STEP: r its last DESCENT");
        step(21, 1, 2, 1);
        step(123456798, 8, 9, 1, 12345687);
        step(213456798, 8, 9, 21, 21345687);
        step(21354, 4, 5, 21, 2143);
    }

    private static void lastPlaceOfLess() {
        CHECK.sentence("5: A STEP: s the last place with digit s less than digit r");
        step(312, 1, 3, 21);
        step(912345678, 1, 9, 81234567);
        step(321, 2, 3, 312);
        step(1423, 2, 4, 132, 312);
        step(14325, 3, 4, 1423, 2413);
    }

    private static void heirsAheadOfR() {
        CHECK.sentence("5: A STEP: HEIRS: v EXCHANGED at q, r, q less than r");
        // r is 1: there is no q.
        step(21, 1, 2, 1);
        step(51234, 1, 5, 4123);
        step(132, 2, 3, 1, 21);
        step(1243, 3, 4, 1, 132);
    }

    private static void heirsOfTheSameLength() {
        CHECK.sentence("5: A STEP: HEIRS: .. whose LENGTH is that of w");
        // v is 1234: 1 and 3, or 2 and 3, change places: only the latter has one more than v.
        step(1243, 3, 4, 1, 132);
        step(2143, 3, 4, 21, 231, 312);
        step(321, 2, 3, 312);
    }

    // ---- promise 24

    private static void riseOutside() {
        CHECK.sentence("promise 24: OUTSIDE: w");
        SchubertDesk x = new SchubertDesk();
        Edges.each(CHECK, "rise(w, 1, -1)", NO_PERMUTATIONS, w -> x.rise(w, 1, -1), OUTSIDE);
        Edges.each(CHECK, "rise(w, 8, 0)", NO_PERMUTATIONS, w -> x.rise(w, 8, 0), OUTSIDE);
    }

    private static void riseEightDigits() {
        CHECK.sentence("promise 24: OUTSIDE: w (with 8 digits at most)");
        SchubertDesk x = new SchubertDesk();
        CHECK.due("the least of eight", x.rise(12345678, 1, 0), 21);
        CHECK.due("the greatest of eight", x.rise(87654321, 1, 0), 976543218);
        List<Integer> nine = List.of(123456789, 123456798, 213456789, 876543219, 912345678, 987654321);
        Edges.each(CHECK, "rise(w, 1, -1)", nine, w -> x.rise(w, 1, -1), OUTSIDE);
        Edges.each(CHECK, "rise(w, 8, 0)", nine, w -> x.rise(w, 8, 0), OUTSIDE);
    }

    private static void riseByR() {
        CHECK.sentence("promise 24: OUTSIDE: r (1 .. 8)");
        SchubertDesk x = new SchubertDesk();
        CHECK.due("r 1", x.rise(1, 1, 0), 21);
        CHECK.due("r 8", x.rise(1, 8, 0), 123456798);
        Edges.each(CHECK, "rise(1, r, 0)", List.of(0, -1, 9, 10, LEAST, MOST), r -> x.rise(1, r, 0), OUTSIDE);
        Edges.each(CHECK, "rise(1, r, -1)", List.of(0, -1, 9, 10, LEAST, MOST), r -> x.rise(1, r, -1), OUTSIDE);
    }

    private static void riseCount() {
        CHECK.sentence("promise 24: how many (k -1); OUTSIDE: k below -1");
        SchubertDesk x = new SchubertDesk();
        CHECK.due("rise(1, 1, -1)", x.rise(1, 1, -1), 1);
        Edges.each(CHECK, "rise(1, 1, k)", List.of(-2, -3, -9, LEAST), k -> x.rise(1, 1, k), OUTSIDE);
    }

    private static void riseFewer() {
        CHECK.sentence("promise 24: NONE: there are fewer");
        SchubertDesk x = new SchubertDesk();
        CHECK.due("the only one", x.rise(1, 1, 0), 21);
        Edges.each(CHECK, "rise(1, 1, k)", List.of(1, 2, 31, 32, 33, MOST), k -> x.rise(1, 1, k), NONE);
    }

    /** 16 of them: each of 4, 3, 2, 1 with each of 8, 7, 6, 5. */
    private static void riseLeastFirst() {
        CHECK.sentence("promise 24: unlike ones, the least first");
        SchubertDesk x = new SchubertDesk();
        CHECK.due("how many", x.rise(43218765, 4, -1), 16);
        int before = 0;
        for (int k = 0; k < 16; k++) {
            int next = x.rise(43218765, 4, k);
            CHECK.holds("rise(43218765, 4, " + k + ") is greater: " + next, next > before);
            before = next;
        }
        CHECK.due("the first: 1 and 5", x.rise(43218765, 4, 0), 43258761);
        CHECK.due("the last: 4 and 8", x.rise(43218765, 4, 15), 83214765);
        CHECK.due("no more", x.rise(43218765, 4, 16), NONE);
        // As numbers: fewer digits come first.
        rises(21, 2, 231, 312);
        rises(132, 2, 231, 1423);
    }

    // ---- promise 25

    private static void stepOutside() {
        CHECK.sentence("promise 25: OUTSIDE: w, k below -3");
        SchubertDesk x = new SchubertDesk();
        Edges.each(CHECK, "step(w, -3)", NO_PERMUTATIONS, w -> x.step(w, -3), OUTSIDE);
        Edges.each(CHECK, "step(w, 1)", NO_PERMUTATIONS, w -> x.step(w, 1), OUTSIDE);
        Edges.each(CHECK, "step(21, k)", List.of(-4, -5, -9, LEAST), k -> x.step(21, k), OUTSIDE);
    }

    private static void stepKinds() {
        CHECK.sentence("promise 25: r (k -3), s (k -2), how many HEIRS (k -1), v (k 0), the k-th HEIR");
        SchubertDesk x = new SchubertDesk();
        int[] due = {3, 4, 2, 21, 231, 312, NONE};
        for (int k = -3; k <= 3; k++) {
            CHECK.due("step(2143, " + k + ")", x.step(2143, k), due[k + 3]);
        }
    }

    private static void stepState() {
        CHECK.sentence("promise 25: STATE: w has no DESCENT");
        SchubertDesk x = new SchubertDesk();
        List<Integer> all = List.of(-3, -2, -1, 0, 1, 2, MOST);
        for (int n = 1; n <= 9; n++) {
            int told = Edges.leastOf(n);
            Edges.each(CHECK, "step(" + told + ", k)", all, k -> x.step(told, k), STATE);
        }
        CHECK.due("the first descent", x.step(21, -3), 1);
        CHECK.due("the last descent", x.step(123456798, -3), 8);
    }

    private static void stepFewer() {
        CHECK.sentence("promise 25: k 1 or more; NONE: there are fewer");
        SchubertDesk x = new SchubertDesk();
        CHECK.due("no heirs", x.step(21, -1), 0);
        Edges.each(CHECK, "step(21, k)", List.of(1, 2, 31, 32, 33, MOST), k -> x.step(21, k), NONE);
        CHECK.due("one heir", x.step(132, 1), 21);
        Edges.each(CHECK, "step(132, k)", List.of(2, 3, MOST), k -> x.step(132, k), NONE);
    }

    private static void stepLeastFirst() {
        CHECK.sentence("promise 25: the least first");
        step(765432198, 8, 9, 7654321, 76543281, 76543812, 76548213, 76583214, 76843215, 78543216, 86543217);
    }

    private static void stepNineDigits() {
        CHECK.sentence("promise 25: w with nine digits too");
        step(987654321, 8, 9, 987654312);
        step(123456798, 8, 9, 1, 12345687);
        step(213456789, 1, 2, 1);
    }
}
