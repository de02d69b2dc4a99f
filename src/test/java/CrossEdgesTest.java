import java.util.List;

/** The boundary cases of the document's section 4: its terms, and promises 21 to 23. */
public final class CrossEdgesTest {
    private static final Check CHECK = new Check("CrossEdgesTest");
    private static final int OUTSIDE = SchubertDesk.OUTSIDE;
    private static final int STATE = SchubertDesk.STATE;
    private static final int NONE = SchubertDesk.NONE;
    private static final int LEAST = Edges.LEAST;
    private static final int MOST = Edges.MOST;
    private static final List<Integer> NO_SETS = List.of(-1, -2, 1024, 1025, 2048, LEAST, MOST);
    private static final List<Integer> BELOW_COUNT = List.of(-2, -3, -9, LEAST);
    /** The bits of rows 1 to 4: the name tells row and place. */
    private static final int AT11 = 1, AT12 = 2, AT13 = 4, AT14 = 8;
    private static final int AT21 = 16, AT22 = 32, AT23 = 64;
    private static final int AT31 = 128, AT32 = 256;
    private static final int AT41 = 512;

    public static void main(String[] args) {
        tenPlaces();
        readingOrder();
        tight();
        ladderOfRowOne();
        ladderWithoutNextPlace();
        ladderBesideACross();
        ladderNeedsBothFree();
        ladderNeedsBothBetween();
        ladderOverManyRows();
        ladderWithoutEnd();
        makesSets();
        makesNone();
        dreamOutside();
        dreamState();
        dreamFewer();
        dreamLeastFirst();
        ladderOutside();
        ladderFewer();
        ladderLeastFirst();
        CHECK.end();
    }

    /** The answers of ladder, one after another, and how many there are. */
    private static void ladders(int crosses, int... due) {
        SchubertDesk x = new SchubertDesk();
        CHECK.due("ladder(" + crosses + ", -1)", x.ladder(crosses, -1), due.length);
        for (int k = 0; k < due.length; k++) {
            CHECK.due("ladder(" + crosses + ", " + k + ")", x.ladder(crosses, k), due[k]);
        }
        CHECK.due("ladder(" + crosses + ", all of them)", x.ladder(crosses, due.length), NONE);
    }

    // ---- terms

    private static void tenPlaces() {
        CHECK.sentence("4: bits 0 to 3 are row 1, 4 to 6 row 2, 7 and 8 row 3, 9 row 4, each from place 1 on");
        SchubertDesk x = new SchubertDesk();
        int[] due = {21, 132, 1243, 12354, 132, 1243, 12354, 1243, 12354, 12354};
        for (int bit = 0; bit < 10; bit++) {
            CHECK.due("makes bit " + bit, x.makes(1 << bit), due[bit]);
        }
        CHECK.due("no place", x.makes(0), 1);
        CHECK.due("all places", x.makes(1023), 54321);
    }

    private static void readingOrder() {
        CHECK.sentence("4: Read row by row from the first on, in each from the last place to the first");
        SchubertDesk x = new SchubertDesk();
        CHECK.due("one row: 2, then 1", x.makes(AT11 | AT12), 312);
        CHECK.due("one row: 4 to 1", x.makes(AT11 | AT12 | AT13 | AT14), 51234);
        CHECK.due("row 1, then row 2", x.makes(AT11 | AT21), 231);
        CHECK.due("rows 1 to 4", x.makes(AT11 | AT21 | AT31 | AT41), 23451);
        CHECK.due("the end of row 1, then row 2", x.makes(AT14 | AT22), 12534);
        CHECK.due("the last places of rows 1 and 2", x.makes(AT13 | AT23), 12453);
    }

    private static void tight() {
        CHECK.sentence("4: TIGHT, if its LENGTH is how many CROSSES there are");
        SchubertDesk x = new SchubertDesk();
        CHECK.due("none: tight", x.makes(0), 1);
        CHECK.due("all: tight", x.makes(1023), 54321);
        CHECK.due("two that undo each other", x.makes(AT12 | AT21), NONE);
        CHECK.due("the last places of rows 1 and 2", x.makes(AT14 | AT23), NONE);
        CHECK.due("the last places of rows 3 and 4", x.makes(AT32 | AT41), NONE);
        CHECK.due("three that make one", x.makes(AT13 | AT22 | AT31), NONE);
    }

    private static void ladderOfRowOne() {
        CHECK.sentence("4: LADDER: .. and a row h above it (h less than i)");
        ladders(0);
        ladders(AT11);
        ladders(AT12);
        ladders(AT13);
        ladders(AT14);
        ladders(AT11 | AT14);
        ladders(AT21, AT12);
        ladders(AT22, AT13);
        ladders(AT31, AT22);
    }

    private static void ladderWithoutNextPlace() {
        CHECK.sentence("4: LADDER: where row i has no place j + 1, there is no CROSS at it either");
        ladders(AT23, AT14);
        ladders(AT32, AT23);
        ladders(AT41, AT32);
        // Bit by bit the next ones are the first places of the next rows: these are no hindrance.
        ladders(AT23 | AT31, AT22 | AT23, AT14 | AT31);
        ladders(AT32 | AT41, AT23 | AT41);
    }

    private static void ladderBesideACross() {
        CHECK.sentence("4: LADDER: .. with none at i, j + 1");
        ladders(AT21 | AT22, AT13 | AT21);
        ladders(AT21 | AT22 | AT23, AT14 | AT21 | AT22);
        ladders(AT31 | AT32, AT23 | AT31);
    }

    private static void ladderNeedsBothFree() {
        CHECK.sentence("4: LADDER: .. with none at h, j nor at h, j + 1");
        ladders(AT21 | AT11);
        ladders(AT21 | AT12);
        ladders(AT21 | AT11 | AT12);
        ladders(AT23 | AT13);
        ladders(AT23 | AT14);
        ladders(AT21 | AT13, AT12 | AT13);
        ladders(AT22 | AT11, AT11 | AT13);
    }

    private static void ladderNeedsBothBetween() {
        CHECK.sentence("4: LADDER: in each row between h and i there are CROSSES at j and j + 1 both");
        // The one at row 2 itself moves, or not; the one at row 3 cannot pass by just one of two.
        ladders(AT31 | AT21, AT12 | AT31);
        ladders(AT31 | AT22, AT13 | AT31);
        ladders(AT31 | AT21 | AT22, AT12 | AT21 | AT22, AT13 | AT21 | AT31);
        ladders(AT31 | AT21 | AT22 | AT11, AT11 | AT13 | AT21 | AT31);
        ladders(AT31 | AT21 | AT22 | AT12);
        ladders(AT31 | AT21 | AT22 | AT11 | AT12);
    }

    private static void ladderOverManyRows() {
        CHECK.sentence("4: LADDER: .. from row 4 up to row 1");
        int both = AT21 | AT22 | AT31 | AT32;
        ladders(AT41 | both, AT12 | both, AT13 | (AT41 | both) ^ AT22);
        ladders(AT41 | both | AT11, AT11 | AT13 | (AT41 | both) ^ AT22);
        // Row 2 lacks one of the two: the one of row 4 stays.
        ladders(AT41 | AT31 | AT32 | AT21, AT41 | AT31 | AT21 | AT23, AT12 | AT41 | AT31 | AT32);
        // Row 2 lacks both: the one of row 4 goes there, and no further.
        ladders(AT41 | AT31 | AT32, AT31 | AT32 | AT22, AT41 | AT31 | AT23);
    }

    private static void ladderWithoutEnd() {
        CHECK.sentence("4: LADDER: with all places full there is none");
        ladders(1023);
        ladders(AT11 | AT12 | AT13 | AT14 | AT21 | AT22 | AT23);
    }

    // ---- promise 21

    private static void makesSets() {
        CHECK.sentence("promise 21: CROSSES (0 .. 1023); OUTSIDE");
        SchubertDesk x = new SchubertDesk();
        CHECK.due("makes(0)", x.makes(0), 1);
        CHECK.due("makes(1023)", x.makes(1023), 54321);
        Edges.each(CHECK, "makes", NO_SETS, x::makes, OUTSIDE);
    }

    private static void makesNone() {
        CHECK.sentence("promise 21: NONE: they are not TIGHT");
        SchubertDesk x = new SchubertDesk();
        CHECK.due("makes(18)", x.makes(18), NONE);
        CHECK.due("makes(1022)", x.makes(1022), NONE);
        CHECK.due("tight again", x.makes(17), 231);
    }

    // ---- promise 22

    private static void dreamOutside() {
        CHECK.sentence("promise 22: OUTSIDE: w, k below -1");
        SchubertDesk x = new SchubertDesk();
        Edges.each(CHECK, "dream(w, -1)", Edges.noPermutations(), w -> x.dream(w, -1), OUTSIDE);
        Edges.each(CHECK, "dream(w, 0)", Edges.noPermutations(), w -> x.dream(w, 0), OUTSIDE);
        Edges.each(CHECK, "dream(21, k)", BELOW_COUNT, k -> x.dream(21, k), OUTSIDE);
        CHECK.due("dream(21, -1)", x.dream(21, -1), 1);
    }

    private static void dreamState() {
        CHECK.sentence("promise 22: STATE: w is not SMALL");
        SchubertDesk x = new SchubertDesk();
        CHECK.due("five digits", x.dream(12354, -1), 4);
        CHECK.due("five digits told with nine", x.dream(123546789, -1), 4);
        CHECK.due("five digits, all turned", x.dream(54321, 0), 1023);
        List<Integer> notSmall = List.of(123465, 1234576, 123456798, 612345, 654321, 987654321);
        Edges.each(CHECK, "dream(w, -1)", notSmall, w -> x.dream(w, -1), STATE);
        Edges.each(CHECK, "dream(w, 0)", notSmall, w -> x.dream(w, 0), STATE);
        Edges.each(CHECK, "dream(w, MOST)", notSmall, w -> x.dream(w, MOST), STATE);
    }

    private static void dreamFewer() {
        CHECK.sentence("promise 22: from 0 on; NONE: there are fewer");
        SchubertDesk x = new SchubertDesk();
        CHECK.due("of all in place: how many", x.dream(1, -1), 1);
        CHECK.due("of all in place: the empty one", x.dream(1, 0), 0);
        Edges.each(CHECK, "dream(1, k)", List.of(1, 2, MOST), k -> x.dream(1, k), NONE);
        CHECK.due("all turned: how many", x.dream(54321, -1), 1);
        Edges.each(CHECK, "dream(54321, k)", List.of(1, 2, MOST), k -> x.dream(54321, k), NONE);
        CHECK.due("the last of four", x.dream(12354, 3), AT41);
        Edges.each(CHECK, "dream(12354, k)", List.of(4, 5, 1023, 1024, MOST), k -> x.dream(12354, k), NONE);
    }

    private static void dreamLeastFirst() {
        CHECK.sentence("promise 22: the least first");
        SchubertDesk x = new SchubertDesk();
        int[] due = {AT14, AT23, AT32, AT41};
        for (int k = 0; k < due.length; k++) {
            CHECK.due("dream(12354, " + k + ")", x.dream(12354, k), due[k]);
        }
    }

    // ---- promise 23

    private static void ladderOutside() {
        CHECK.sentence("promise 23: OUTSIDE: crosses, k below -1");
        SchubertDesk x = new SchubertDesk();
        CHECK.due("ladder(0, -1)", x.ladder(0, -1), 0);
        CHECK.due("ladder(1023, -1)", x.ladder(1023, -1), 0);
        Edges.each(CHECK, "ladder(n, -1)", NO_SETS, n -> x.ladder(n, -1), OUTSIDE);
        Edges.each(CHECK, "ladder(n, 0)", NO_SETS, n -> x.ladder(n, 0), OUTSIDE);
        Edges.each(CHECK, "ladder(512, k)", BELOW_COUNT, k -> x.ladder(512, k), OUTSIDE);
        Edges.each(CHECK, "ladder(0, k)", BELOW_COUNT, k -> x.ladder(0, k), OUTSIDE);
    }

    private static void ladderFewer() {
        CHECK.sentence("promise 23: NONE: there are fewer");
        SchubertDesk x = new SchubertDesk();
        CHECK.due("of none: how many", x.ladder(0, -1), 0);
        CHECK.due("of none: the first", x.ladder(0, 0), NONE);
        CHECK.due("of all: the first", x.ladder(1023, 0), NONE);
        CHECK.due("the only one", x.ladder(AT41, 0), AT32);
        Edges.each(CHECK, "ladder(512, k)", List.of(1, 2, 32, 33, MOST), k -> x.ladder(512, k), NONE);
    }

    private static void ladderLeastFirst() {
        CHECK.sentence("promise 23: unlike sets, the least first");
        // Each of them climbs alone: where the greatest bit goes, the set is the least.
        ladders(AT23 | AT31, AT22 | AT23, AT14 | AT31);
        ladders(AT22 | AT41, AT32 | AT22, AT13 | AT41);
        ladders(AT41 | AT23 | AT21, AT32 | AT23 | AT21, AT41 | AT14 | AT21, AT41 | AT23 | AT12);
    }
}
