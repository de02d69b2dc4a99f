import java.util.List;

/** The boundary cases of the document's section 2: its terms, and promises 11 to 13. */
public final class PolynomialEdgesTest {
    private static final Check CHECK = new Check("PolynomialEdgesTest");
    private static final int OUTSIDE = SchubertDesk.OUTSIDE;
    private static final int STATE = SchubertDesk.STATE;
    private static final long LOST = SchubertDesk.LOST;
    private static final int LEAST = Edges.LEAST;
    private static final int MOST = Edges.MOST;
    private static final List<Integer> NO_PERMUTATIONS = Edges.noPermutations();
    /** No descent, then one at 4; then the last descent at 5 to 8. */
    private static final List<Integer> FIT = List.of(1, 12354, 987612345);
    private static final List<Integer> NOT_FIT =
            List.of(123465, 1234576, 12345687, 123456798, 213465, 654321, 987654321);
    private static final List<Integer> BELOW_0 = List.of(-1, -2, LEAST);
    private static final List<Integer> NO_POINTS = List.of(-4, 4, -5, 5, LEAST, MOST);

    public static void main(String[] args) {
        noneLessThanTheNext();
        elseByDifference();
        highestExponents();
        numberOutside();
        numberExponents();
        numberNotThere();
        numberState();
        termsOutside();
        termsState();
        valueLostOutside();
        valuePoints();
        valueLostState();
        valueAtTheEnds();
        CHECK.end();
    }

    // ---- terms

    private static void noneLessThanTheNext() {
        CHECK.sentence("2: if none of C1 to C4 is less than the next one of them: x1 to the C1 ..");
        SchubertDesk x = new SchubertDesk();
        CHECK.due("all 0: the number 1", x.number(1, 0, 0, 0, 0), 1);
        CHECK.due("all 0: alone", x.terms(1), 1);
        CHECK.due("two alike: x1 x2", x.number(231, 1, 1, 0, 0), 1);
        CHECK.due("two alike: alone", x.terms(231), 1);
        CHECK.due("four alike: x1 x2 x3 x4", x.number(23451, 1, 1, 1, 1), 1);
        CHECK.due("four alike: alone", x.terms(23451), 1);
        CHECK.due("four alike, the most: to the 5", x.number(678912345, 5, 5, 5, 5), 1);
        CHECK.due("four alike, the most: alone", x.terms(678912345), 1);
        CHECK.due("all greatest", x.number(987612345, 8, 7, 6, 5), 1);
        CHECK.due("all greatest: alone", x.terms(987612345), 1);
    }

    private static void elseByDifference() {
        CHECK.sentence("2: else, for the first i with Ci less than Ci+1, the DIFFERENCE by i ..");
        SchubertDesk x = new SchubertDesk();
        CHECK.due("i 1: x1 and x2", x.terms(132), 2);
        CHECK.due("i 2: x1 to x3", x.terms(1243), 3);
        CHECK.due("i 3: x1 to x4", x.terms(12354), 4);
        for (int k = 1; k <= 4; k++) {
            CHECK.due("x" + k + " of 12354", x.number(12354, k == 1 ? 1 : 0, k == 2 ? 1 : 0,
                    k == 3 ? 1 : 0, k == 4 ? 1 : 0), 1);
        }
        // x1 x2 (x1 + x2)
        CHECK.due("2413: two", x.terms(2413), 2);
        CHECK.due("2413: x1 x1 x2", x.number(2413, 2, 1, 0, 0), 1);
        CHECK.due("2413: x1 x2 x2", x.number(2413, 1, 2, 0, 0), 1);
    }

    /** S of 123945678 has all that four exponents with the sum 5 tell: 56, each once. */
    private static void highestExponents() {
        CHECK.sentence("2: S of a FIT PERMUTATION, with nine digits");
        SchubertDesk x = new SchubertDesk();
        CHECK.due("terms(123945678)", x.terms(123945678), 56);
        CHECK.due("x1 to the 5", x.number(123945678, 5, 0, 0, 0), 1);
        CHECK.due("x4 to the 5", x.number(123945678, 0, 0, 0, 5), 1);
        CHECK.due("terms(129345678)", x.terms(129345678), 28);
        CHECK.due("x3 to the 6", x.number(129345678, 0, 0, 6, 0), 1);
        CHECK.due("terms(192345678)", x.terms(192345678), 8);
        CHECK.due("x2 to the 7", x.number(192345678, 0, 7, 0, 0), 1);
        CHECK.due("terms(912345678)", x.terms(912345678), 1);
        CHECK.due("x1 to the 8", x.number(912345678, 8, 0, 0, 0), 1);
        CHECK.due("all of 123945678 at 1", x.value(123945678, 1, 1, 1, 1), 56);
    }

    // ---- promise 11

    private static void numberOutside() {
        CHECK.sentence("promise 11: OUTSIDE: w");
        SchubertDesk x = new SchubertDesk();
        Edges.each(CHECK, "number(w, 0 ..)", NO_PERMUTATIONS, w -> x.number(w, 0, 0, 0, 0), OUTSIDE);
        CHECK.due("neither w nor exponents", x.number(2, -1, -1, -1, -1), OUTSIDE);
    }

    private static void numberExponents() {
        CHECK.sentence("promise 11: OUTSIDE: exponents (0 at least)");
        SchubertDesk x = new SchubertDesk();
        CHECK.due("all 0", x.number(1, 0, 0, 0, 0), 1);
        Edges.each(CHECK, "e1", BELOW_0, e -> x.number(1, e, 0, 0, 0), OUTSIDE);
        Edges.each(CHECK, "e2", BELOW_0, e -> x.number(1, 0, e, 0, 0), OUTSIDE);
        Edges.each(CHECK, "e3", BELOW_0, e -> x.number(1, 0, 0, e, 0), OUTSIDE);
        Edges.each(CHECK, "e4", BELOW_0, e -> x.number(1, 0, 0, 0, e), OUTSIDE);
        CHECK.due("one below 0, one far above", x.number(1, MOST, 0, 0, -1), OUTSIDE);
        Edges.each(CHECK, "w not FIT", NOT_FIT, w -> x.number(w, 0, 0, 0, -1), OUTSIDE);
    }

    /** Beside the ends: numbers that an index reckoned from them would mistake for others. */
    private static void numberNotThere() {
        CHECK.sentence("promise 11: 0: it is not there");
        SchubertDesk x = new SchubertDesk();
        CHECK.due("one beyond, x1", x.number(132, 9, 0, 0, 0), 0);
        CHECK.due("one beyond, x2", x.number(1243, 0, 8, 0, 0), 0);
        CHECK.due("one beyond, x3", x.number(12354, 0, 0, 7, 0), 0);
        CHECK.due("one beyond, x4", x.number(12354, 0, 0, 0, 6), 0);
        CHECK.due("9 times it is 1, if it wraps", x.number(21, 0, 954437177, 0, 0), 0);
        CHECK.due("8 times it is 0, if it wraps", x.number(1, 0, 0, 1 << 29, 0), 0);
        CHECK.due("8 times it is 0, if it wraps", x.number(1, 0, 0, 0, 1 << 29), 0);
        Edges.each(CHECK, "e1", List.of(10, MOST), e -> x.number(1, e, 0, 0, 0), 0);
        Edges.each(CHECK, "e2", List.of(10, MOST), e -> x.number(1, 0, e, 0, 0), 0);
        Edges.each(CHECK, "e3", List.of(10, MOST), e -> x.number(1, 0, 0, e, 0), 0);
        Edges.each(CHECK, "e4", List.of(10, MOST), e -> x.number(1, 0, 0, 0, e), 0);
        CHECK.due("all greatest", x.number(1, MOST, MOST, MOST, MOST), 0);
        CHECK.due("all at the ends", x.number(1, 8, 7, 6, 5), 0);
    }

    private static void numberState() {
        CHECK.sentence("promise 11: STATE: w is not FIT");
        SchubertDesk x = new SchubertDesk();
        Edges.each(CHECK, "fit", FIT, w -> Math.min(x.number(w, 1, 0, 0, 0), 0), 0);
        Edges.each(CHECK, "not fit", NOT_FIT, w -> x.number(w, 0, 0, 0, 0), STATE);
        Edges.each(CHECK, "not fit, far", NOT_FIT, w -> x.number(w, MOST, 0, 0, 0), STATE);
    }

    // ---- promise 12

    private static void termsOutside() {
        CHECK.sentence("promise 12: OUTSIDE");
        SchubertDesk x = new SchubertDesk();
        Edges.each(CHECK, "terms", NO_PERMUTATIONS, x::terms, OUTSIDE);
    }

    private static void termsState() {
        CHECK.sentence("promise 12: STATE: w is not FIT");
        SchubertDesk x = new SchubertDesk();
        CHECK.due("terms(1)", x.terms(1), 1);
        CHECK.due("terms(12354)", x.terms(12354), 4);
        CHECK.due("terms(123546)", x.terms(123546), 4);
        Edges.each(CHECK, "terms", NOT_FIT, x::terms, STATE);
    }

    // ---- promise 13

    private static void valueLostOutside() {
        CHECK.sentence("promise 13: LOST: OUTSIDE, by w");
        SchubertDesk x = new SchubertDesk();
        Edges.each(CHECK, "value(w, 1 ..)", NO_PERMUTATIONS, w -> x.value(w, 1, 1, 1, 1), LOST);
    }

    private static void valuePoints() {
        CHECK.sentence("promise 13: x1 to x4 (-3 .. 3 each)");
        SchubertDesk x = new SchubertDesk();
        for (int at = -3; at <= 3; at++) {
            CHECK.due("x1 is " + at, x.value(12354, at, 0, 0, 0), at);
            CHECK.due("x2 is " + at, x.value(12354, 0, at, 0, 0), at);
            CHECK.due("x3 is " + at, x.value(12354, 0, 0, at, 0), at);
            CHECK.due("x4 is " + at, x.value(12354, 0, 0, 0, at), at);
        }
        Edges.each(CHECK, "x1", NO_POINTS, n -> x.value(1, n, 0, 0, 0), LOST);
        Edges.each(CHECK, "x2", NO_POINTS, n -> x.value(1, 0, n, 0, 0), LOST);
        Edges.each(CHECK, "x3", NO_POINTS, n -> x.value(1, 0, 0, n, 0), LOST);
        Edges.each(CHECK, "x4", NO_POINTS, n -> x.value(1, 0, 0, 0, n), LOST);
    }

    private static void valueLostState() {
        CHECK.sentence("promise 13: LOST: STATE: w is not FIT");
        SchubertDesk x = new SchubertDesk();
        Edges.each(CHECK, "fit at 0", FIT, w -> x.value(w, 0, 0, 0, 0) == LOST ? 1 : 0, 0);
        Edges.each(CHECK, "not fit", NOT_FIT, w -> x.value(w, 0, 0, 0, 0), LOST);
    }

    private static void valueAtTheEnds() {
        CHECK.sentence("promise 13: S of w with these for x1 to x4");
        SchubertDesk x = new SchubertDesk();
        CHECK.due("the number 1 at 0", x.value(1, 0, 0, 0, 0), 1);
        CHECK.due("x1 at 0", x.value(21, 0, 3, 3, 3), 0);
        CHECK.due("3 to the 26: more than an int", x.value(987612345, 3, 3, 3, 3), 2541865828329L);
        CHECK.due("x2 to the 7, x4 to the 5", x.value(987612345, -3, -3, -3, -3), 2541865828329L);
        CHECK.due("x2 to the 7 alone negative", x.value(987612345, 3, -3, 3, 3), -2541865828329L);
        CHECK.due("x4 to the 5 alone negative", x.value(987612345, 3, 3, 3, -3), -2541865828329L);
        CHECK.due("56 times 3 to the 5", x.value(123945678, 3, 3, 3, 3), 56 * 243);
        CHECK.due("56 times -3 to the 5", x.value(123945678, -3, -3, -3, -3), 56 * -243);
    }
}
