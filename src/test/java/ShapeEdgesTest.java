import java.util.List;

/** The boundary cases of the document's section 6: its terms, and promises 26 and 27. */
public final class ShapeEdgesTest {
    private static final Check CHECK = new Check("ShapeEdgesTest");
    private static final int OUTSIDE = SchubertDesk.OUTSIDE;
    private static final int STATE = SchubertDesk.STATE;
    private static final int NONE = SchubertDesk.NONE;
    private static final int LEAST = Edges.LEAST;
    private static final int MOST = Edges.MOST;
    private static final List<Integer> NO_PERMUTATIONS = Edges.noPermutations();

    public static void main(String[] args) {
        partsFromOneToR();
        avoidsThreeAtTheEnds();
        avoidsFourAtTheEnds();
        avoidsWithoutRoom();
        shapeOutside();
        shapeFewer();
        shapeState();
        avoidsOutside();
        avoidsHow();
        CHECK.end();
    }

    private static void shape(int w, int... parts) {
        SchubertDesk x = new SchubertDesk();
        for (int k = 1; k <= parts.length; k++) {
            CHECK.due("shape(" + w + ", " + k + ")", x.shape(w, k), parts[k - 1]);
        }
        CHECK.due("shape(" + w + ", " + (parts.length + 1) + ")", x.shape(w, parts.length + 1), NONE);
    }

    // ---- terms

    private static void partsFromOneToR() {
        CHECK.sentence("6: SHAPE: parts k from 1 to r: digit r + 1 - k, less (r + 1 - k)");
        shape(21, 1);
        shape(912345678, 8);
        shape(234567891, 1, 1, 1, 1, 1, 1, 1, 1);
        shape(123456798, 1, 0, 0, 0, 0, 0, 0, 0);
        shape(678912345, 5, 5, 5, 5);
        shape(135792468, 4, 3, 2, 1, 0);
        shape(213456789, 1);
    }

    private static void avoidsThreeAtTheEnds() {
        CHECK.sentence("6: AVOIDS 1: the least digit first, then the greatest, then the middle one");
        SchubertDesk x = new SchubertDesk();
        CHECK.due("132", x.avoids(132, 1), 0);
        int[] others = {123, 213, 231, 312, 321};
        for (int w : others) {
            CHECK.due("avoids(" + w + ", 1)", x.avoids(w, 1), 1);
        }
        CHECK.due("the first place and any two", x.avoids(198765432, 1), 0);
        CHECK.due("the last three places only", x.avoids(987654132, 1), 0);
        CHECK.due("places 1, 8 and 9 only", x.avoids(798654321, 1), 0);
        CHECK.due("places 1, 2 and 9 only", x.avoids(795643218, 1), 0);
        CHECK.due("none", x.avoids(987654321, 1), 1);
    }

    private static void avoidsFourAtTheEnds() {
        CHECK.sentence("6: AVOIDS 2: no four with digits as 2, 1, 4, 3");
        SchubertDesk x = new SchubertDesk();
        for (int w : Oracle.all(4)) {
            CHECK.due("avoids(" + w + ", 2)", x.avoids(w, 2), w == 2143 ? 0 : 1);
        }
        CHECK.due("the first two and the last two", x.avoids(213456798, 2), 0);
        CHECK.due("the first four", x.avoids(214356789, 2), 0);
        CHECK.due("the last four", x.avoids(987652143, 2), 0);
        CHECK.due("none", x.avoids(987654321, 2), 1);
        CHECK.due("none, all in place", x.avoids(123456789, 2), 1);
    }

    private static void avoidsWithoutRoom() {
        CHECK.sentence("6: AVOIDS: those behind it stay in place");
        SchubertDesk x = new SchubertDesk();
        int[] all = {1, 21, 12, 123456789};
        for (int w : all) {
            CHECK.due("avoids(" + w + ", 1)", x.avoids(w, 1), 1);
            CHECK.due("avoids(" + w + ", 2)", x.avoids(w, 2), 1);
        }
        CHECK.due("avoids(876543219, 1)", x.avoids(876543219, 1), 1);
    }

    // ---- promise 26

    private static void shapeOutside() {
        CHECK.sentence("promise 26: OUTSIDE: w, k (k 1 or more)");
        SchubertDesk x = new SchubertDesk();
        Edges.each(CHECK, "shape(w, 1)", NO_PERMUTATIONS, w -> x.shape(w, 1), OUTSIDE);
        Edges.each(CHECK, "shape(21, k)", List.of(0, -1, -2, -9, LEAST), k -> x.shape(21, k), OUTSIDE);
        CHECK.due("shape(21, 1)", x.shape(21, 1), 1);
    }

    private static void shapeFewer() {
        CHECK.sentence("promise 26: NONE: there are fewer");
        SchubertDesk x = new SchubertDesk();
        Edges.each(CHECK, "shape(21, k)", List.of(2, 3, 9, 10, MOST), k -> x.shape(21, k), NONE);
        CHECK.due("the eighth of eight", x.shape(123456798, 8), 0);
        Edges.each(CHECK, "shape(123456798, k)", List.of(9, 10, MOST), k -> x.shape(123456798, k), NONE);
    }

    private static void shapeState() {
        CHECK.sentence("promise 26: STATE: it has not just one DESCENT");
        SchubertDesk x = new SchubertDesk();
        List<Integer> none = List.of(1, 12, 12345, 123456789);
        List<Integer> many = List.of(321, 2143, 213456798, 123456987, 987654321);
        Edges.each(CHECK, "shape(w, 1)", none, w -> x.shape(w, 1), STATE);
        Edges.each(CHECK, "shape(w, 1)", many, w -> x.shape(w, 1), STATE);
        Edges.each(CHECK, "shape(w, MOST)", none, w -> x.shape(w, MOST), STATE);
        Edges.each(CHECK, "shape(w, MOST)", many, w -> x.shape(w, MOST), STATE);
        CHECK.due("just one, the first", x.shape(21, 1), 1);
        CHECK.due("just one, the last", x.shape(123456798, 1), 1);
    }

    // ---- promise 27

    private static void avoidsOutside() {
        CHECK.sentence("promise 27: OUTSIDE, by w");
        SchubertDesk x = new SchubertDesk();
        Edges.each(CHECK, "avoids(w, 1)", NO_PERMUTATIONS, w -> x.avoids(w, 1), OUTSIDE);
        Edges.each(CHECK, "avoids(w, 2)", NO_PERMUTATIONS, w -> x.avoids(w, 2), OUTSIDE);
    }

    private static void avoidsHow() {
        CHECK.sentence("promise 27: 1 (how 1), 2 (how 2); OUTSIDE");
        SchubertDesk x = new SchubertDesk();
        CHECK.due("has 1, not 2", x.avoids(132, 1), 0);
        CHECK.due("has 1, not 2", x.avoids(132, 2), 1);
        Edges.each(CHECK, "avoids(132, how)", List.of(0, -1, 3, 4, LEAST, MOST), how -> x.avoids(132, how), OUTSIDE);
        Edges.each(CHECK, "avoids(1, how)", List.of(0, -1, 3, 4, LEAST, MOST), how -> x.avoids(1, how), OUTSIDE);
    }
}
