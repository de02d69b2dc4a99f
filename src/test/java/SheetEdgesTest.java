import java.util.List;

/** The boundary cases of the document's section 3: its terms, and promises 1 and 14 to 20. */
public final class SheetEdgesTest {
    private static final Check CHECK = new Check("SheetEdgesTest");
    private static final int OUTSIDE = SchubertDesk.OUTSIDE;
    private static final int STATE = SchubertDesk.STATE;
    private static final int OVER = SchubertDesk.OVER;
    private static final int NONE = SchubertDesk.NONE;
    private static final long LOST = SchubertDesk.LOST;
    private static final int LEAST = Edges.LEAST;
    private static final int MOST = Edges.MOST;
    private static final int LIMIT = Sheets.LIMIT;
    private static final List<Integer> NO_PERMUTATIONS = Edges.noPermutations();
    private static final List<Integer> NOT_FIT =
            List.of(123465, 1234576, 12345687, 123456798, 213465, 654321, 987654321);
    private static final List<Integer> BELOW_0 = List.of(-1, -2, LEAST);
    private static final int[] SIGNS = {1, -1};

    public static void main(String[] args) {
        newObject();
        numbersUpToTheLimit();
        numbersFarBeyondTheLimit();
        oneOverOfMany();
        exponentsUpToTheEnds();
        partsNotZero();
        partsInOrder();
        partsOfZero();
        wipeAnswersWhatItHad();
        wipeLeavesZero();
        addFactors();
        addOutside();
        addState();
        addOver();
        addToZero();
        multiplyOutside();
        multiplyState();
        multiplyOverByNumbers();
        multiplyOverByExponents();
        multiplyAtTheEnds();
        multiplyByEachUpToTheEnds();
        multiplyZero();
        differenceOutside();
        differenceOver();
        differenceAtTheEnds();
        differenceOfOneVariable();
        sheetOutside();
        sheetBeyond();
        partOutside();
        partFewer();
        timesLost();
        timesNone();
        timesBeyondAnInt();
        CHECK.end();
    }

    /** An object whose sheet has so many times S of w: counts and permutations in turn. */
    private static SchubertDesk having(int... countsAndPermutations) {
        SchubertDesk x = new SchubertDesk();
        for (int k = 0; k + 1 < countsAndPermutations.length; k += 2) {
            x.add(countsAndPermutations[k], countsAndPermutations[k + 1]);
        }
        return x;
    }

    /** An object whose sheet is this number. */
    private static SchubertDesk grown(int goal) {
        SchubertDesk x = new SchubertDesk();
        Sheets.grow(x, goal);
        return x;
    }

    // ---- promise 1 and the terms

    private static void newObject() {
        CHECK.sentence("promise 1: THE SHEET has 0");
        CHECK.due("wipe()", new SchubertDesk().wipe(), 0);
        CHECK.due("part(-1)", new SchubertDesk().part(-1), 0);
        CHECK.due("part(0)", new SchubertDesk().part(0), NONE);
        CHECK.due("times(1)", new SchubertDesk().times(1), 0);
        CHECK.due("times(987612345)", new SchubertDesk().times(987612345), 0);
        CHECK.due("sheet(0, 0, 0, 0)", new SchubertDesk().sheet(0, 0, 0, 0), 0);
        CHECK.due("sheet(8, 7, 6, 5)", new SchubertDesk().sheet(8, 7, 6, 5), 0);
        CHECK.due("add(0, 1)", new SchubertDesk().add(0, 1), 0);
        CHECK.due("multiply(1)", new SchubertDesk().multiply(1), 0);
        CHECK.due("difference(1)", new SchubertDesk().difference(1), 0);
        having(5, 1, 7, 987612345);
        CHECK.due("after another object's calls", new SchubertDesk().wipe(), 0);
    }

    private static void numbersUpToTheLimit() {
        CHECK.sentence("3: OVER: above 1000000000, or below -1000000000");
        for (int sign : SIGNS) {
            SchubertDesk x = grown(sign * (LIMIT - 1));
            CHECK.due("two more", x.add(sign * 2, 1), OVER);
            CHECK.due("as it was", x.sheet(0, 0, 0, 0), sign * 999999999L);
            CHECK.due("one more", x.add(sign, 1), 1);
            CHECK.due("at the limit", x.sheet(0, 0, 0, 0), sign * 1000000000L);
            CHECK.due("beyond the limit", x.add(sign, 1), OVER);
            CHECK.due("still at the limit", x.sheet(0, 0, 0, 0), sign * 1000000000L);
            CHECK.due("one less", x.add(-sign, 1), 1);
            CHECK.due("below the limit", x.sheet(0, 0, 0, 0), sign * 999999999L);
        }
    }

    /**
     * The sum of x1 x2 x3 and its like, times the sum of x1 to x4, has 4 at x1 x2 x3 x4 and else 1
     * alone. 4 times 1000000000 would be -294967296, if an int held it.
     */
    private static void numbersFarBeyondTheLimit() {
        CHECK.sentence("3: OVER: above 1000000000, where an int could not hold it");
        for (int sign : SIGNS) {
            SchubertDesk x = grown(sign * LIMIT);
            CHECK.due("multiply(13452)", x.multiply(13452), 4);
            CHECK.due("multiply(12354)", x.multiply(12354), OVER);
            CHECK.holds("unchanged", Sheets.has(x, Sheets.times(sign * LIMIT, 13452)));
        }
    }

    private static void oneOverOfMany() {
        CHECK.sentence("3: OVER: a number in it would be above ..: one of many");
        for (int sign : SIGNS) {
            SchubertDesk x = grown(sign * LIMIT);
            CHECK.due("multiply(21)", x.multiply(21), 1);
            CHECK.due("x1 alone would be over", x.add(sign, 12354), OVER);
            CHECK.due("x1", x.sheet(1, 0, 0, 0), sign * 1000000000L);
            CHECK.due("x2 did not come", x.sheet(0, 1, 0, 0), 0);
            CHECK.due("x4 did not come", x.sheet(0, 0, 0, 1), 0);
            CHECK.due("away from the limit", x.add(-sign, 12354), 4);
        }
    }

    private static void exponentsUpToTheEnds() {
        CHECK.sentence("3: OVER: an exponent of xi above 9 - i");
        SchubertDesk one = having(1, 912345678);
        CHECK.due("x1 to the 9", one.multiply(21), OVER);
        CHECK.due("x1 to the 8 as it was", one.sheet(8, 0, 0, 0), 1);
        SchubertDesk two = having(1, 192345678);
        CHECK.due("x2 to the 8", two.multiply(132), OVER);
        CHECK.due("x2 to the 7 as it was", two.sheet(0, 7, 0, 0), 1);
        CHECK.due("x2 to the 7 beside x1 to the 8", two.multiply(21), 8);
        CHECK.due("x1 to the 8", two.sheet(8, 0, 0, 0), 1);
        SchubertDesk three = having(1, 129345678);
        CHECK.due("x3 to the 7", three.multiply(1243), OVER);
        CHECK.due("x3 to the 6 as it was", three.sheet(0, 0, 6, 0), 1);
        CHECK.due("x3 to the 6 beside x2 to the 7", three.multiply(132), 35);
        CHECK.due("x2 to the 7", three.sheet(0, 7, 0, 0), 1);
        SchubertDesk four = having(1, 123945678);
        CHECK.due("x4 to the 6", four.multiply(12354), OVER);
        CHECK.due("x4 to the 5 as it was", four.sheet(0, 0, 0, 5), 1);
        CHECK.due("x4 to the 5 beside x3 to the 6", four.multiply(1243), 83);
        CHECK.due("x3 to the 6", four.sheet(0, 0, 6, 0), 1);
        CHECK.due("all at the ends", having(1, 987612345).sheet(8, 7, 6, 5), 1);
    }

    private static void partsNotZero() {
        CHECK.sentence("3: PARTS: each so many times, not 0");
        SchubertDesk x = having(2, 132, 3, 21);
        CHECK.due("two parts", x.part(-1), 2);
        CHECK.due("one goes", x.add(-2, 132), 1);
        CHECK.due("one part", x.part(-1), 1);
        CHECK.due("the other", x.part(0), 21);
        CHECK.due("times(132)", x.times(132), 0);
        // x1 + x2 less x1 leaves x2, in which x1 is not there: but S of 21 is, -1 times.
        SchubertDesk y = having(1, 132, -1, 21);
        CHECK.due("x1 is not there", y.sheet(1, 0, 0, 0), 0);
        CHECK.due("two parts of one number", y.part(-1), 2);
        CHECK.due("times(21)", y.times(21), -1);
    }

    private static void partsInOrder() {
        CHECK.sentence("3: PARTS, in the order of their PLAIN numbers");
        int[] order = {1, 21, 132, 231, 312, 321, 1243, 2143, 4123, 12354, 23451, 51234, 123645,
            612345, 2341567, 123945678, 912345678, 987612345};
        SchubertDesk up = new SchubertDesk();
        SchubertDesk down = new SchubertDesk();
        for (int k = 0; k < order.length; k++) {
            up.add(k + 1, order[k]);
            down.add(k + 1, order[order.length - 1 - k]);
        }
        // 2341567 is 2341, which comes ahead of 4123.
        int[] due = {1, 21, 132, 231, 312, 321, 1243, 2143, 2341, 4123, 12354, 23451, 51234, 123645,
            612345, 123945678, 912345678, 987612345};
        for (int k = 0; k < due.length; k++) {
            CHECK.due("part(" + k + "), added upwards", up.part(k), due[k]);
            CHECK.due("part(" + k + "), added downwards", down.part(k), due[k]);
        }
    }

    private static void partsOfZero() {
        CHECK.sentence("3: PARTS of a sheet that has 0");
        SchubertDesk[] all = {new SchubertDesk(), having(5, 1432, -5, 1432), having(0, 1432),
            having(1, 1432), having(1, 21, 1, 132, -1, 132, -1, 21)};
        all[3].wipe();
        for (SchubertDesk x : all) {
            CHECK.due("part(-1)", x.part(-1), 0);
            CHECK.due("part(0)", x.part(0), NONE);
            CHECK.due("part(MOST)", x.part(MOST), NONE);
            CHECK.due("part(-2)", x.part(-2), OUTSIDE);
            CHECK.due("times(1)", x.times(1), 0);
            CHECK.due("times(1432)", x.times(1432), 0);
        }
    }

    // ---- promise 14

    private static void wipeAnswersWhatItHad() {
        CHECK.sentence("promise 14: how many numbers that are not 0 it had");
        CHECK.due("none", new SchubertDesk().wipe(), 0);
        CHECK.due("the first", having(1, 1).wipe(), 1);
        CHECK.due("the last", having(-1, 987612345).wipe(), 1);
        CHECK.due("x1 gone of x1 to x4", having(1, 12354, -1, 21).wipe(), 3);
        CHECK.due("all gone", having(1, 12354, -1, 12354).wipe(), 0);
        SchubertDesk x = having(1, 12354);
        CHECK.due("once", x.wipe(), 4);
        CHECK.due("again", x.wipe(), 0);
    }

    private static void wipeLeavesZero() {
        CHECK.sentence("promise 14: THE SHEET has 0");
        SchubertDesk x = having(1000, 1, 1000, 987612345, -7, 1432);
        x.part(-1);
        x.wipe();
        CHECK.due("the first", x.sheet(0, 0, 0, 0), 0);
        CHECK.due("the last", x.sheet(8, 7, 6, 5), 0);
        CHECK.due("in the midst", x.sheet(1, 1, 1, 0), 0);
        CHECK.due("parts", x.part(-1), 0);
        CHECK.due("times(1432)", x.times(1432), 0);
        CHECK.due("add to it", x.add(1, 21), 1);
        CHECK.due("what was is no hindrance", x.multiply(321), 1);
        CHECK.due("x1 to the 3 x2", x.sheet(3, 1, 0, 0), 1);
    }

    // ---- promise 15

    private static void addFactors() {
        CHECK.sentence("promise 15: c times (-1000 .. 1000)");
        CHECK.due("add(1000, 1)", new SchubertDesk().add(1000, 1), 1);
        CHECK.due("1000", having(1000, 1).sheet(0, 0, 0, 0), 1000);
        CHECK.due("-1000", having(-1000, 1).sheet(0, 0, 0, 0), -1000);
        SchubertDesk x = having(3, 12354);
        CHECK.due("add(0, 12354)", x.add(0, 12354), 4);
        CHECK.due("unchanged by 0", x.sheet(0, 0, 0, 1), 3);
        CHECK.due("add(0, 1)", x.add(0, 1), 4);
        Edges.each(CHECK, "add(c, 1)", List.of(-1001, 1001, -1002, 1002, LEAST, MOST),
                c -> x.add(c, 1), OUTSIDE);
        CHECK.due("unchanged", x.add(0, 1), 4);
    }

    private static void addOutside() {
        CHECK.sentence("promise 15: OUTSIDE, by w");
        SchubertDesk x = having(3, 12354);
        Edges.each(CHECK, "add(1, w)", NO_PERMUTATIONS, w -> x.add(1, w), OUTSIDE);
        Edges.each(CHECK, "add(0, w)", NO_PERMUTATIONS, w -> x.add(0, w), OUTSIDE);
        CHECK.holds("unchanged", Sheets.has(x, Sheets.times(3, 12354)));
    }

    private static void addState() {
        CHECK.sentence("promise 15: STATE: w is not FIT");
        SchubertDesk x = having(3, 12354);
        Edges.each(CHECK, "add(1, w)", NOT_FIT, w -> x.add(1, w), STATE);
        Edges.each(CHECK, "add(0, w)", NOT_FIT, w -> x.add(0, w), STATE);
        CHECK.holds("unchanged", Sheets.has(x, Sheets.times(3, 12354)));
    }

    private static void addOver() {
        CHECK.sentence("promise 15: OVER");
        for (int sign : SIGNS) {
            SchubertDesk x = grown(sign * (LIMIT - 999));
            CHECK.due("1000 more", x.add(sign * 1000, 1), OVER);
            CHECK.due("as it was", x.sheet(0, 0, 0, 0), sign * (LIMIT - 999L));
            CHECK.due("999 more", x.add(sign * 999, 1), 1);
            CHECK.due("at the limit", x.sheet(0, 0, 0, 0), sign * 1000000000L);
            CHECK.due("0 more, at the limit", x.add(0, 1), 1);
            CHECK.due("another number", x.add(sign * 1000, 21), 2);
            CHECK.due("1000 less", x.add(sign * -1000, 1), 2);
        }
    }

    private static void addToZero() {
        CHECK.sentence("promise 15: how many numbers that are not 0 it has");
        SchubertDesk x = having(1000, 132);
        CHECK.due("one of two goes", x.add(-1000, 21), 1);
        CHECK.due("it comes back", x.add(1000, 21), 2);
        CHECK.due("both go", x.add(-1000, 132), 0);
        CHECK.due("nothing more", x.add(0, 132), 0);
    }

    // ---- promise 16

    private static void multiplyOutside() {
        CHECK.sentence("promise 16: OUTSIDE");
        SchubertDesk x = having(3, 12354);
        Edges.each(CHECK, "multiply", NO_PERMUTATIONS, x::multiply, OUTSIDE);
        CHECK.holds("unchanged", Sheets.has(x, Sheets.times(3, 12354)));
        SchubertDesk zero = new SchubertDesk();
        Edges.each(CHECK, "multiply of 0", NO_PERMUTATIONS, zero::multiply, OUTSIDE);
    }

    private static void multiplyState() {
        CHECK.sentence("promise 16: STATE: w is not FIT");
        SchubertDesk x = having(3, 12354);
        Edges.each(CHECK, "multiply", NOT_FIT, x::multiply, STATE);
        CHECK.holds("unchanged", Sheets.has(x, Sheets.times(3, 12354)));
        SchubertDesk zero = new SchubertDesk();
        Edges.each(CHECK, "multiply of 0", NOT_FIT, zero::multiply, STATE);
    }

    /** (x1 + x2) twice has 2 in the midst. */
    private static void multiplyOverByNumbers() {
        CHECK.sentence("promise 16: OVER, by a number");
        for (int sign : SIGNS) {
            SchubertDesk x = grown(sign * LIMIT / 2);
            CHECK.due("once", x.multiply(132), 2);
            CHECK.due("just at the limit", x.multiply(132), 3);
            CHECK.due("the limit", x.sheet(1, 1, 0, 0), sign * 1000000000L);
            CHECK.due("by 1, at the limit", x.multiply(1), 3);
            CHECK.due("by x1, at the limit", x.multiply(21), 3);
            SchubertDesk y = grown(sign * (LIMIT / 2 + 1));
            CHECK.due("once", y.multiply(132), 2);
            CHECK.due("one too many", y.multiply(132), OVER);
            CHECK.holds("unchanged", Sheets.has(y, Sheets.times(sign * (LIMIT / 2 + 1L), 132)));
            CHECK.due("parts unchanged", y.part(0), 132);
        }
    }

    private static void multiplyOverByExponents() {
        CHECK.sentence("promise 16: OVER, by an exponent");
        int[] highest = {912345678, 192345678, 129345678, 123945678};
        int[] oneMore = {21, 132, 1243, 12354};
        for (int k = 0; k < 4; k++) {
            SchubertDesk x = having(-2, highest[k]);
            CHECK.due("x" + (k + 1) + " once more", x.multiply(oneMore[k]), OVER);
            CHECK.holds("unchanged", Sheets.has(x, Sheets.times(-2, highest[k])));
            SchubertDesk y = having(1, oneMore[k]);
            CHECK.due("the other way round", y.multiply(highest[k]), OVER);
            CHECK.holds("unchanged", Sheets.has(y, Sheets.times(1, oneMore[k])));
        }
        CHECK.due("all at once", having(1, 987612345).multiply(987612345), OVER);
        CHECK.due("one of many numbers", having(1, 1, 1, 912345678).multiply(21), OVER);
        SchubertDesk gone = having(1, 912345678, 1, 1, -1, 912345678);
        CHECK.due("what has gone is no hindrance", gone.multiply(912345678), 1);
    }

    private static void multiplyAtTheEnds() {
        CHECK.sentence("promise 16: multiplied by S of w, up to the ends");
        SchubertDesk x = having(-3, 1);
        CHECK.due("the number by all", x.multiply(987612345), 1);
        CHECK.due("all at the ends", x.sheet(8, 7, 6, 5), -3);
        CHECK.due("by 1", x.multiply(1), 1);
        CHECK.due("still there", x.sheet(8, 7, 6, 5), -3);
        SchubertDesk y = having(1, 432156);
        CHECK.due("x1 to the 3, x2 to the 2, x3", y.sheet(3, 2, 1, 0), 1);
        // 678912345 has all four to the 5: together x1 to the 8, x2 to the 7, x3 to the 6, x4 to the 5.
        CHECK.due("by all four to the 5", y.multiply(678912345), 1);
        CHECK.due("all at the ends", y.sheet(8, 7, 6, 5), 1);
        // (x1 + x2) and (-x1 + x2): what is in the midst goes.
        SchubertDesk z = having(1, 132, -2, 21);
        CHECK.due("numbers that go", z.multiply(132), 2);
        CHECK.due("in the midst", z.sheet(1, 1, 0, 0), 0);
    }

    /** S of each, beside a monomial that leaves x1 just as much room as it needs: not one more. */
    private static void multiplyByEachUpToTheEnds() {
        CHECK.sentence("promise 16: OVER, by an exponent: for each w there is room up to 9 - i");
        for (int w : Oracle.allFit()) {
            int[] top = new int[4];
            for (List<Integer> e : Oracle.single(Oracle.read(w)).numbers.keySet()) {
                for (int k = 0; k < 4; k++) {
                    top[k] = Math.max(top[k], e.get(k));
                }
            }
            int[] left = new int[4];
            for (int k = 0; k < 4; k++) {
                left[k] = Math.min(k == 0 ? 8 : left[k - 1], 8 - k - top[k]);
            }
            SchubertDesk x = new SchubertDesk();
            int terms = x.terms(w);
            int monomial = x.ofCode(left[0], left[1], left[2], left[3]);
            x.add(1, monomial);
            CHECK.due(monomial + " by " + w, x.multiply(w), terms);
            CHECK.due(".. and by x1", x.multiply(21), OVER);
            SchubertDesk y = having(1, w);
            CHECK.due(w + " by " + monomial, y.multiply(monomial), terms);
            CHECK.due(".. and by x1", y.multiply(21), OVER);
        }
    }

    private static void multiplyZero() {
        CHECK.sentence("promise 16: of a sheet that has 0");
        SchubertDesk x = new SchubertDesk();
        CHECK.due("by 1", x.multiply(1), 0);
        CHECK.due("by the highest", x.multiply(987612345), 0);
        SchubertDesk y = having(1, 987612345, -1, 987612345);
        CHECK.due("once it had the highest", y.multiply(987612345), 0);
        CHECK.due("parts", y.part(-1), 0);
    }

    // ---- promise 17

    private static void differenceOutside() {
        CHECK.sentence("promise 17: OUTSIDE (DIFFERENCE by i, 1 .. 3)");
        SchubertDesk x = having(3, 12354);
        Edges.each(CHECK, "difference", List.of(0, -1, 4, 5, LEAST, MOST), x::difference, OUTSIDE);
        CHECK.holds("unchanged", Sheets.has(x, Sheets.times(3, 12354)));
        CHECK.due("by 1: of x1", having(3, 21).difference(1), 1);
        CHECK.due("by 2: of x1 and x2", having(3, 132).difference(2), 1);
        CHECK.due("by 3: of x1 to x3", having(3, 1243).difference(3), 1);
        SchubertDesk zero = new SchubertDesk();
        Edges.each(CHECK, "difference of 0", List.of(0, 4, LEAST, MOST), zero::difference, OUTSIDE);
    }

    /** The difference by 1 of x1 x1 (x1 + x2) is x1 x1 + 2 x1 x2 + x2 x2. */
    private static void differenceOver() {
        CHECK.sentence("promise 17: OVER");
        for (int sign : SIGNS) {
            SchubertDesk x = grown(sign * LIMIT / 2);
            x.multiply(312);
            CHECK.due("multiply(132)", x.multiply(132), 2);
            CHECK.due("just at the limit", x.difference(1), 3);
            CHECK.due("the limit", x.sheet(1, 1, 0, 0), sign * 1000000000L);
            SchubertDesk y = grown(sign * (LIMIT / 2 + 1));
            y.multiply(312);
            y.multiply(132);
            CHECK.due("one too many", y.difference(1), OVER);
            CHECK.due("x1 to the 3, as it was", y.sheet(3, 0, 0, 0), sign * (LIMIT / 2 + 1));
            CHECK.due("x1 x1 x2, as it was", y.sheet(2, 1, 0, 0), sign * (LIMIT / 2 + 1));
            CHECK.due("nothing else", y.add(0, 1), 2);
            CHECK.due("by 3 it is 0", y.difference(3), 0);
        }
    }

    private static void differenceAtTheEnds() {
        CHECK.sentence("promise 17: THE SHEET becomes its DIFFERENCE by i, up to the ends");
        SchubertDesk x = having(2, 912345678);
        CHECK.due("of x1 to the 8", x.difference(1), 8);
        CHECK.due("x1 to the 7", x.sheet(7, 0, 0, 0), 2);
        CHECK.due("x2 to the 7", x.sheet(0, 7, 0, 0), 2);
        CHECK.due("x1 to the 8 is gone", x.sheet(8, 0, 0, 0), 0);
        CHECK.due("by 2", x.difference(2), 28);
        CHECK.due("x3 to the 6", x.sheet(0, 0, 6, 0), 2);
        CHECK.due("by 3", x.difference(3), 56);
        CHECK.due("x4 to the 5", x.sheet(0, 0, 0, 5), 2);
        CHECK.due("alike in x3 and x4: 0", x.difference(3), 0);
        SchubertDesk all = having(-1, 987612345);
        CHECK.due("of all at the ends", all.difference(3), 1);
        CHECK.due("x3 and x4 to the 5", all.sheet(8, 7, 5, 5), -1);
        CHECK.due("of a number", having(5, 1).difference(2), 0);
        CHECK.due("of 0", new SchubertDesk().difference(3), 0);
        // x1 less x1 and x2, of which the difference is -1.
        SchubertDesk negative = having(1, 21, -1, 132);
        CHECK.due("of -x2", negative.difference(1), 1);
        CHECK.due("1", negative.sheet(0, 0, 0, 0), 1);
    }

    private static void differenceOfOneVariable() {
        CHECK.sentence("promise 17: .. of x1, x2, x3, x4 alone");
        int[] due = {1, 0, 0, -1, 1, 0, 0, -1, 1, 0, 0, -1};
        for (int k = 0; k < 4; k++) {
            for (int i = 1; i <= 3; i++) {
                SchubertDesk x = alone(k + 1);
                int number = due[3 * k + i - 1];
                CHECK.due("difference(" + i + ") of x" + (k + 1), x.difference(i), Math.abs(number));
                CHECK.due("the number", x.sheet(0, 0, 0, 0), number);
            }
        }
    }

    private static SchubertDesk alone(int variable) {
        int[] sums = {0, 21, 132, 1243, 12354};
        return variable == 1 ? having(1, sums[1]) : having(1, sums[variable], -1, sums[variable - 1]);
    }

    // ---- promise 18

    private static void sheetOutside() {
        CHECK.sentence("promise 18: LOST: OUTSIDE: exponents (0 at least)");
        SchubertDesk x = having(4, 1);
        CHECK.due("all 0", x.sheet(0, 0, 0, 0), 4);
        Edges.each(CHECK, "e1", BELOW_0, e -> x.sheet(e, 0, 0, 0), LOST);
        Edges.each(CHECK, "e2", BELOW_0, e -> x.sheet(0, e, 0, 0), LOST);
        Edges.each(CHECK, "e3", BELOW_0, e -> x.sheet(0, 0, e, 0), LOST);
        Edges.each(CHECK, "e4", BELOW_0, e -> x.sheet(0, 0, 0, e), LOST);
        CHECK.due("one below 0, one far above", x.sheet(MOST, 0, 0, -1), LOST);
        CHECK.due("-9 of x1 beside 1 of x2", x.sheet(-9, 1, 0, 0), LOST);
    }

    /** Beside the ends: numbers that an index reckoned from them would mistake for others. */
    private static void sheetBeyond() {
        CHECK.sentence("promise 18: the number at x1 to the e1 and so on, beyond the ends");
        SchubertDesk x = having(4, 1, 5, 12354, 6, 987612345);
        CHECK.due("x1 to the 8 and so on", x.sheet(8, 7, 6, 5), 6);
        CHECK.due("one beyond, x1", x.sheet(9, 0, 0, 0), 0);
        CHECK.due("one beyond, x2", x.sheet(0, 8, 0, 0), 0);
        CHECK.due("one beyond, x3", x.sheet(0, 0, 7, 0), 0);
        CHECK.due("one beyond, x4", x.sheet(0, 0, 0, 6), 0);
        CHECK.due("one beyond, all", x.sheet(9, 8, 7, 6), 0);
        CHECK.due("9 times it is 1, if it wraps", x.sheet(0, 954437177, 0, 0), 0);
        CHECK.due("8 times it is 0, if it wraps", x.sheet(0, 0, 1 << 29, 0), 0);
        CHECK.due("8 times it is 0, if it wraps", x.sheet(0, 0, 0, 1 << 29), 0);
        Edges.each(CHECK, "e1", List.of(10, MOST), e -> x.sheet(e, 0, 0, 0), 0);
        Edges.each(CHECK, "e2", List.of(10, MOST), e -> x.sheet(0, e, 0, 0), 0);
        Edges.each(CHECK, "e3", List.of(10, MOST), e -> x.sheet(0, 0, e, 0), 0);
        Edges.each(CHECK, "e4", List.of(10, MOST), e -> x.sheet(0, 0, 0, e), 0);
        CHECK.due("all greatest", x.sheet(MOST, MOST, MOST, MOST), 0);
    }

    // ---- promise 19

    private static void partOutside() {
        CHECK.sentence("promise 19: OUTSIDE: k below -1");
        SchubertDesk x = having(1, 21, 1, 132);
        CHECK.due("part(-1)", x.part(-1), 2);
        Edges.each(CHECK, "part", List.of(-2, -3, -9, LEAST), x::part, OUTSIDE);
    }

    private static void partFewer() {
        CHECK.sentence("promise 19: from 0 on; NONE: there are fewer");
        SchubertDesk x = having(1, 21, 1, 132);
        CHECK.due("the first", x.part(0), 21);
        CHECK.due("the last", x.part(1), 132);
        Edges.each(CHECK, "part", List.of(2, 3, 3023, 3024, 3025, MOST), x::part, NONE);
        CHECK.due("of 0", new SchubertDesk().part(0), NONE);
    }

    // ---- promise 20

    private static void timesLost() {
        CHECK.sentence("promise 20: LOST: OUTSIDE; STATE: w is not FIT");
        SchubertDesk x = having(1, 21, 1, 132);
        Edges.each(CHECK, "times", NO_PERMUTATIONS, x::times, LOST);
        Edges.each(CHECK, "times", NOT_FIT, x::times, LOST);
        Edges.each(CHECK, "times, of 0", NOT_FIT, new SchubertDesk()::times, LOST);
    }

    private static void timesNone() {
        CHECK.sentence("promise 20: how many times THE SHEET has S of w as a PART");
        SchubertDesk x = having(1000, 1, -1000, 987612345);
        CHECK.due("times(1)", x.times(1), 1000);
        CHECK.due("times(987612345)", x.times(987612345), -1000);
        CHECK.due("no part: 0", x.times(21), 0);
        CHECK.due("no part of 0: 0", new SchubertDesk().times(1), 0);
        for (int sign : SIGNS) {
            SchubertDesk y = grown(sign * LIMIT);
            CHECK.due("at the limit", y.times(1), sign * 1000000000L);
        }
    }

    /**
     * A sum of parts that has 55 or -55 as each of its 125 numbers, and 990 times S of 345612. It is
     * alike in x1 to x4, so that a difference passes by it, and what doubles a number doubles it too.
     */
    private static void timesBeyondAnInt() {
        CHECK.sentence("promise 20: long: how many times, where an int could not hold it");
        int[] parts = {18, 345612, -10, 2457136, -1, 2367145, 6, 1467235, 6, 23581467, -2, 14582367,
            -3, 13682457, 2, 12783456, -4, 234915678, 2, 135924678, -1, 126934578};
        for (int sign : SIGNS) {
            SchubertDesk x = new SchubertDesk();
            for (int k = 0; k < parts.length; k += 2) {
                x.add(sign * 55 * parts[k], parts[k + 1]);
            }
            for (int k = 0; k < 22; k++) {
                Sheets.twice(x);
            }
            CHECK.due("numbers", x.add(0, 1), 125);
            CHECK.due("x1 to x4 to the 2", x.sheet(2, 2, 2, 2), sign * (55L << 22));
            CHECK.due("parts", x.part(-1), 11);
            CHECK.due("times(345612)", x.times(345612), sign * (990L << 22));
            CHECK.due("times(2457136)", x.times(2457136), sign * -(550L << 22));
            CHECK.due("times(126934578)", x.times(126934578), sign * -(55L << 22));
        }
    }
}
