import java.util.LinkedHashMap;
import java.util.List;
import java.util.Map;
import java.util.function.ToLongFunction;

/** The boundary cases that the head of the document's terms names, and its sentence on 512 calls. */
public final class RefusalEdgesTest {
    private static final Check CHECK = new Check("RefusalEdgesTest");
    private static final int OUTSIDE = SchubertDesk.OUTSIDE;
    private static final int STATE = SchubertDesk.STATE;
    private static final int OVER = SchubertDesk.OVER;
    private static final int NONE = SchubertDesk.NONE;
    private static final long LOST = SchubertDesk.LOST;
    private static final int MOST = Edges.MOST;
    private static final int LIMIT = Sheets.LIMIT;

    public static void main(String[] args) {
        constants();
        outsideAheadOfState();
        outsideAheadOfOver();
        stateAheadOfOver();
        stateAheadOfNone();
        outsideAheadOfNone();
        refusalsChangeNothing();
        asIfNotCalled();
        lostForAnyRefusal();
        noneChangesNothing();
        askingChangesNothing();
        asItIsWhenAsked();
        listsAsTheyAreWhenAsked();
        setsAsBits();
        lastOf512Calls();
        dearest512Calls();
        CHECK.end();
    }

    private static void constants() {
        CHECK.sentence("REFUSALS: OUTSIDE, STATE, OVER, NONE is -9, LOST");
        CHECK.due("OUTSIDE", new SchubertDesk().plain(0), -2);
        CHECK.due("STATE", new SchubertDesk().words(654321), -3);
        SchubertDesk x = new SchubertDesk();
        x.add(1, 987612345);
        CHECK.due("OVER", x.multiply(21), -5);
        CHECK.due("NONE", new SchubertDesk().part(0), -9);
        CHECK.due("LOST", new SchubertDesk().times(0), Long.MIN_VALUE);
    }

    // ---- "of a call's line the first that fits is answered, in the order told there"

    private static void outsideAheadOfState() {
        CHECK.sentence("REFUSALS: the first that fits: OUTSIDE ahead of STATE");
        SchubertDesk x = new SchubertDesk();
        CHECK.due("number: an exponent, w not FIT", x.number(123465, -1, 0, 0, 0), OUTSIDE);
        CHECK.due("number: the last exponent, w not FIT", x.number(123465, 0, 0, 0, -1), OUTSIDE);
        CHECK.due("number: w not FIT", x.number(123465, 0, 0, 0, 0), STATE);
        CHECK.due("add: c, w not FIT", x.add(1001, 123465), OUTSIDE);
        CHECK.due("add: c below, w not FIT", x.add(-1001, 123465), OUTSIDE);
        CHECK.due("add: w not FIT", x.add(1000, 123465), STATE);
        CHECK.due("dream: k, w not SMALL", x.dream(123465, -2), OUTSIDE);
        CHECK.due("dream: w not SMALL", x.dream(123465, -1), STATE);
        CHECK.due("step: k, no DESCENT", x.step(1, -4), OUTSIDE);
        CHECK.due("step: no DESCENT", x.step(1, -3), STATE);
        CHECK.due("shape: k, no DESCENT", x.shape(1, 0), OUTSIDE);
        CHECK.due("shape: no DESCENT", x.shape(1, 1), STATE);
        CHECK.due("shape: k, two DESCENTS", x.shape(321, 0), OUTSIDE);
        CHECK.due("shape: two DESCENTS", x.shape(321, 1), STATE);
    }

    private static void outsideAheadOfOver() {
        CHECK.sentence("REFUSALS: the first that fits: OUTSIDE ahead of OVER");
        SchubertDesk x = full();
        CHECK.due("add: over", x.add(1, 1), OVER);
        CHECK.due("add: c, over", x.add(1001, 1), OUTSIDE);
        CHECK.due("add: w, over", x.add(1000, 2), OUTSIDE);
        CHECK.due("multiply: over", x.multiply(21), OVER);
        CHECK.due("multiply: w, over", x.multiply(22), OUTSIDE);
        SchubertDesk y = overByDifference();
        CHECK.due("difference: i, over", y.difference(0), OUTSIDE);
        CHECK.due("difference: i, over", y.difference(4), OUTSIDE);
        CHECK.due("difference: over", y.difference(1), OVER);
    }

    private static void stateAheadOfOver() {
        CHECK.sentence("REFUSALS: the first that fits: STATE ahead of OVER");
        SchubertDesk x = full();
        CHECK.due("add: w not FIT, over", x.add(1000, 213465), STATE);
        CHECK.due("add: c and w not FIT, over", x.add(1001, 213465), OUTSIDE);
        CHECK.due("multiply: w not FIT, over", x.multiply(213465), STATE);
        CHECK.due("multiply: w not FIT at all, over", x.multiply(987654321), STATE);
    }

    private static void stateAheadOfNone() {
        CHECK.sentence("REFUSALS: STATE, where NONE could be too");
        SchubertDesk x = new SchubertDesk();
        CHECK.due("dream", x.dream(654321, MOST), STATE);
        CHECK.due("step", x.step(1, MOST), STATE);
        CHECK.due("shape", x.shape(1, MOST), STATE);
        CHECK.due("shape", x.shape(321, MOST), STATE);
    }

    private static void outsideAheadOfNone() {
        CHECK.sentence("REFUSALS: OUTSIDE, where NONE could be too");
        SchubertDesk x = new SchubertDesk();
        CHECK.due("dream", x.dream(0, MOST), OUTSIDE);
        CHECK.due("ladder", x.ladder(1024, MOST), OUTSIDE);
        CHECK.due("rise: w", x.rise(123456789, 1, MOST), OUTSIDE);
        CHECK.due("rise: r", x.rise(1, 9, MOST), OUTSIDE);
        CHECK.due("step", x.step(2, MOST), OUTSIDE);
        CHECK.due("shape", x.shape(2, MOST), OUTSIDE);
        CHECK.due("makes", x.makes(1024 + 18), OUTSIDE);
    }

    // ---- "they change nothing"

    /** 1000000000, and 7 times what is at the ends of all exponents. */
    private static SchubertDesk full() {
        SchubertDesk x = new SchubertDesk();
        Sheets.grow(x, LIMIT);
        x.add(7, 987612345);
        return x;
    }

    /** 500000001 times x1 x1 (x1 + x2), of which the difference by 1 has 1000000002. */
    private static SchubertDesk overByDifference() {
        SchubertDesk x = new SchubertDesk();
        Sheets.grow(x, LIMIT / 2 + 1);
        x.multiply(312);
        x.multiply(132);
        return x;
    }

    private static void refusalsChangeNothing() {
        CHECK.sentence("REFUSALS: they change nothing");
        SchubertDesk x = full();
        Poly due = Sheets.times(LIMIT, 1).plus(Sheets.times(7, 987612345), 1);
        CHECK.holds("full", Sheets.has(x, due));
        for (Map.Entry<String, ToLongFunction<SchubertDesk>> call : refused().entrySet()) {
            String name = call.getKey();
            long answer = call.getValue().applyAsLong(x);
            CHECK.holds(name + " is refused: " + answer,
                    answer == OUTSIDE || answer == STATE || answer == OVER || answer == LOST);
            CHECK.holds("the sheet after " + name, Sheets.has(x, due));
            CHECK.due("the second part after " + name, x.part(1), 987612345);
        }
        SchubertDesk y = overByDifference();
        CHECK.due("difference", y.difference(1), OVER);
        CHECK.due("x1 to the 3", y.sheet(3, 0, 0, 0), LIMIT / 2 + 1);
        CHECK.due("x1 x1 x2", y.sheet(2, 1, 0, 0), LIMIT / 2 + 1);
        CHECK.due("no other", y.add(0, 1), 2);
        CHECK.due("again", y.difference(1), OVER);
    }

    private static void asIfNotCalled() {
        CHECK.sentence("REFUSALS: they change nothing: the next calls are as if it had not been");
        SchubertDesk x = new SchubertDesk();
        Sheets.grow(x, LIMIT);
        x.multiply(231);
        CHECK.due("add, over", x.add(1, 231), OVER);
        CHECK.due("difference after it", x.difference(2), 1);
        CHECK.due("x1", x.sheet(1, 0, 0, 0), LIMIT);
        SchubertDesk y = new SchubertDesk();
        y.add(2, 912345678);
        CHECK.due("multiply, over", y.multiply(21), OVER);
        CHECK.due("difference after it", y.difference(1), 8);
        CHECK.due("x2 to the 7", y.sheet(0, 7, 0, 0), 2);
        CHECK.due("multiply, far over", y.multiply(192345678), OVER);
        CHECK.due("add after it", y.add(1, 1), 9);
        SchubertDesk z = overByDifference();
        CHECK.due("difference, over", z.difference(1), OVER);
        CHECK.due("another after it", z.difference(2), 1);
        CHECK.due("x1 x1", z.sheet(2, 0, 0, 0), LIMIT / 2 + 1);
        SchubertDesk w = overByDifference();
        CHECK.due("difference, over", w.difference(1), OVER);
        CHECK.due("multiply after it", w.multiply(21), 2);
        CHECK.due("x1 to the 4", w.sheet(4, 0, 0, 0), LIMIT / 2 + 1);
        w.wipe();
        CHECK.due("difference after wipe", w.difference(1), 0);
        CHECK.due("multiply after wipe", w.multiply(132), 0);
    }

    /** A refused call of each kind, on a sheet that is full. */
    private static Map<String, ToLongFunction<SchubertDesk>> refused() {
        Map<String, ToLongFunction<SchubertDesk>> calls = new LinkedHashMap<>();
        calls.put("add, c above", x -> x.add(1001, 21));
        calls.put("add, c below", x -> x.add(-1001, 21));
        calls.put("add, w", x -> x.add(5, 22));
        calls.put("add, not FIT", x -> x.add(5, 123465));
        calls.put("add, over", x -> x.add(1, 1));
        calls.put("multiply, w", x -> x.multiply(22));
        calls.put("multiply, not FIT", x -> x.multiply(123465));
        calls.put("multiply, over", x -> x.multiply(21));
        calls.put("multiply, far over", x -> x.multiply(987612345));
        calls.put("difference, 0", x -> x.difference(0));
        calls.put("difference, 4", x -> x.difference(4));
        calls.put("sheet", x -> x.sheet(-1, 0, 0, 0));
        calls.put("part", x -> x.part(-2));
        calls.put("times, w", x -> x.times(0));
        calls.put("times, not FIT", x -> x.times(123465));
        calls.put("number, w", x -> x.number(0, 0, 0, 0, 0));
        calls.put("number, exponent", x -> x.number(21, 0, 0, 0, -1));
        calls.put("number, not FIT", x -> x.number(123465, 0, 0, 0, 0));
        calls.put("terms, w", x -> x.terms(0));
        calls.put("terms, not FIT", x -> x.terms(123465));
        calls.put("value, w", x -> x.value(0, 0, 0, 0, 0));
        calls.put("value, point", x -> x.value(21, 4, 0, 0, 0));
        calls.put("value, not FIT", x -> x.value(123465, 0, 0, 0, 0));
        calls.put("ofCode", x -> x.ofCode(9, 8, 7, 6));
        calls.put("words", x -> x.words(654321));
        calls.put("makes", x -> x.makes(1024));
        calls.put("dream", x -> x.dream(654321, 0));
        calls.put("ladder", x -> x.ladder(1024, 0));
        calls.put("rise", x -> x.rise(123456789, 1, 0));
        calls.put("step", x -> x.step(1, 0));
        calls.put("shape", x -> x.shape(321, 1));
        calls.put("avoids", x -> x.avoids(21, 3));
        return calls;
    }

    // ---- "LOST is answered for any refusal, where a long is"

    private static void lostForAnyRefusal() {
        CHECK.sentence("REFUSALS: LOST is answered for any refusal, where a long is");
        SchubertDesk x = new SchubertDesk();
        x.add(-3, 21);
        CHECK.due("value: w", x.value(2, 0, 0, 0, 0), LOST);
        CHECK.due("value: a point", x.value(21, 0, 0, 0, -4), LOST);
        CHECK.due("value: not FIT", x.value(123465, 0, 0, 0, 0), LOST);
        CHECK.due("value: a point, not FIT", x.value(123465, 0, 0, 4, 0), LOST);
        CHECK.due("value: none of them", x.value(21, -3, 0, 0, 0), -3);
        CHECK.due("sheet: an exponent", x.sheet(0, 0, -1, 0), LOST);
        CHECK.due("sheet: none of them", x.sheet(1, 0, 0, 0), -3);
        CHECK.due("times: w", x.times(2), LOST);
        CHECK.due("times: not FIT", x.times(123465), LOST);
        CHECK.due("times: none of them", x.times(21), -3);
    }

    private static void noneChangesNothing() {
        CHECK.sentence("REFUSALS: NONE is no refusal; it changes nothing");
        SchubertDesk x = new SchubertDesk();
        x.add(5, 12354);
        Poly due = Sheets.times(5, 12354);
        long[] answers = {x.part(1), x.makes(18), x.dream(1, 1), x.ladder(0, 0), x.rise(1, 1, 1),
            x.step(21, 1), x.shape(21, 2)};
        for (long answer : answers) {
            CHECK.due("one that has fewer", answer, NONE);
        }
        CHECK.holds("the sheet", Sheets.has(x, due));
        CHECK.due("part(0)", x.part(0), 12354);
    }

    private static void askingChangesNothing() {
        CHECK.sentence("the sheet changes by wipe, add, multiply, difference alone");
        SchubertDesk x = new SchubertDesk();
        x.add(5, 12354);
        Poly due = Sheets.times(5, 12354);
        long[] answers = {x.plain(21), x.length(21), x.code(21, 1), x.descents(21), x.inverse(21),
            x.after(21, 132), x.ofCode(1, 0, 0, 0), x.below(21, 132), x.words(321),
            x.number(1432, 2, 1, 0, 0), x.terms(1432), x.value(1432, 1, 2, 3, -1), x.sheet(1, 0, 0, 0),
            x.part(-1), x.part(0), x.times(12354), x.times(21), x.makes(17), x.dream(1432, 0),
            x.ladder(512, 0), x.rise(21, 1, 0), x.step(132, 1), x.shape(132, 1), x.avoids(132, 1)};
        for (long answer : answers) {
            CHECK.holds("one that is answered", answer >= 0);
        }
        CHECK.holds("the sheet", Sheets.has(x, due));
        CHECK.due("wipe()", x.wipe(), 4);
    }

    // ---- "What is told is by how all is when it is asked"

    private static void asItIsWhenAsked() {
        CHECK.sentence("What is told is by how all is when it is asked");
        SchubertDesk x = new SchubertDesk();
        told(x, "new");
        x.add(3, 321);
        told(x, "add(3, 321)", 321, 3);
        x.add(-1, 132);
        told(x, "add(-1, 132)", 132, -1, 321, 3);
        x.add(1, 132);
        told(x, "add(1, 132)", 321, 3);
        x.multiply(21);
        told(x, "multiply(21)", 4213, 3);
        x.difference(1);
        told(x, "difference(1)", 2413, 3);
        x.difference(2);
        told(x, "difference(2)", 2143, 3);
        x.multiply(1);
        told(x, "multiply(1)", 2143, 3);
        x.difference(2);
        told(x, "difference(2), again");
        x.add(2, 1);
        told(x, "add(2, 1)", 1, 2);
        x.wipe();
        told(x, "wipe()");
    }

    /** The parts that are due, each with how many times it is there. */
    private static void told(SchubertDesk x, String after, int... due) {
        CHECK.due("how many parts after " + after, x.part(-1), due.length / 2);
        for (int k = 0; k < due.length; k += 2) {
            CHECK.due("part(" + k / 2 + ") after " + after, x.part(k / 2), due[k]);
            CHECK.due("times(" + due[k] + ") after " + after, x.times(due[k]), due[k + 1]);
        }
        CHECK.due("no more parts after " + after, x.part(due.length / 2), NONE);
    }

    /** Each list is told anew, whatever list was told before it. */
    private static void listsAsTheyAreWhenAsked() {
        CHECK.sentence("What is told is by how all is when it is asked: lists");
        SchubertDesk x = new SchubertDesk();
        for (int round = 0; round < 3; round++) {
            CHECK.due("rises", x.rise(43218765, 4, -1), 16);
            CHECK.due("ladders after rises", x.ladder(944, -1), 2);
            CHECK.due("no ladders after two", x.ladder(0, -1), 0);
            CHECK.due("heirs", x.step(765432198, -1), 7);
            CHECK.due("no heirs after seven", x.step(21, -1), 0);
            CHECK.due("rises after heirs", x.rise(1, 1, -1), 1);
            CHECK.due("the first of them", x.rise(1, 1, 0), 21);
            CHECK.due("dreams", x.dream(12354, -1), 4);
            CHECK.due("one dream after four", x.dream(21, -1), 1);
            CHECK.due("ladders again", x.ladder(512, 0), 256);
        }
    }

    private static void setsAsBits() {
        CHECK.sentence("Sets are told as bits");
        SchubertDesk x = new SchubertDesk();
        CHECK.due("no descent", x.descents(1), 0);
        CHECK.due("descent 1 is bit 1", x.descents(21), 1 << 1);
        CHECK.due("descent 8 is bit 8", x.descents(123456798), 1 << 8);
        CHECK.due("descents 1 and 3", x.descents(2143), 1 << 1 | 1 << 3);
        CHECK.due("no cross", x.makes(0), 1);
        CHECK.due("the first cross is bit 0", x.makes(1 << 0), 21);
        CHECK.due("the last cross is bit 9", x.makes(1 << 9), 12354);
        CHECK.due("a set that is told", x.dream(12354, 3), 1 << 9);
    }

    // ---- "An object is used for at most 512 calls after it has been made"

    private static void lastOf512Calls() {
        CHECK.sentence("at most 512 calls: the last of them is answered as the first");
        SchubertDesk x = new SchubertDesk();
        for (int call = 1; call <= 511; call++) {
            CHECK.due("add, call " + call, x.add(1000, 1), 1);
        }
        CHECK.due("call 512", x.sheet(0, 0, 0, 0), 511000);
        SchubertDesk y = new SchubertDesk();
        for (int call = 1; call <= 511; call++) {
            CHECK.due("plain, call " + call, y.plain(213), 21);
        }
        CHECK.due("call 512 changes the sheet too", y.add(3, 12354), 4);
        SchubertDesk z = new SchubertDesk();
        for (int call = 1; call <= 510; call++) {
            z.plain(0);
        }
        CHECK.due("call 511, after refusals", z.add(3, 12354), 4);
        CHECK.due("call 512, after refusals", z.wipe(), 4);
    }

    /** Sheets with many numbers and parts, over and over: none of it may wear out. */
    private static void dearest512Calls() {
        CHECK.sentence("at most 512 calls: as many of the dearest");
        SchubertDesk x = new SchubertDesk();
        List<Integer> factors = List.of(14523, 12453, 13254, 21);
        int[] numbers = new int[4];
        int[] parts = new int[4];
        Poly due = Sheets.times(1, 1).plus(Sheets.times(1, 12354), 1);
        for (int k = 0; k < 4; k++) {
            due = due.times(Sheets.times(1, factors.get(k)));
            CHECK.holds("within the limits", !due.isOver());
            numbers[k] = due.size();
        }
        for (int round = 0; round < 512 / 11; round++) {
            x.add(1, 1);
            x.add(1, 12354);
            for (int k = 0; k < 4; k++) {
                CHECK.due("multiply, round " + round, x.multiply(factors.get(k)), numbers[k]);
                int count = x.part(-1);
                parts[k] = round == 0 ? count : parts[k];
                CHECK.due("parts, round " + round, count, parts[k]);
            }
            CHECK.due("wipe, round " + round, x.wipe(), numbers[3]);
        }
    }
}
