import java.util.List;

/** The boundary cases of the document's section 1: its terms, and promises 2 to 10. */
public final class PermutationEdgesTest {
    private static final Check CHECK = new Check("PermutationEdgesTest");
    private static final int OUTSIDE = SchubertDesk.OUTSIDE;
    private static final int STATE = SchubertDesk.STATE;
    private static final int LEAST = Edges.LEAST;
    private static final int MOST = Edges.MOST;
    private static final List<Integer> NO_PERMUTATIONS = Edges.noPermutations();

    public static void main(String[] args) {
        digitsOneToN();
        onlyThoseAreTold();
        behindInPlace();
        sameHoweverTold();
        plainIsFewest();
        lengthFromNoneToAll();
        codeCountsBehindAndLess();
        descentPlaces();
        fitUpToFour();
        smallUpToFive();
        belowOrTheSame();
        belowForAllPlacesAndDigits();
        belowByHowMany();
        plainOutside();
        lengthOutside();
        codeOutside();
        codePlaces();
        descentsOutside();
        inverseOutside();
        inverseAtTheEnds();
        afterOutside();
        afterOfUnlikeDigits();
        codesOfOfCode();
        codesBeyond();
        zeroBehind();
        belowOutside();
        wordsOutside();
        wordsState();
        wordsOfNoExchange();
        CHECK.end();
    }

    // ---- terms

    private static void digitsOneToN() {
        CHECK.sentence("1: digits w1 to wn are 1 to n, each once (n 1 .. 9)");
        SchubertDesk x = new SchubertDesk();
        for (int n = 1; n <= 9; n++) {
            int least = Edges.leastOf(n);
            int greatest = Edges.greatestOf(n);
            CHECK.due("plain(" + least + ")", x.plain(least), 1);
            CHECK.due("plain(" + greatest + ")", x.plain(greatest), greatest);
            if (n > 1) {
                CHECK.due("least less 1", x.plain(least - 1), OUTSIDE);
                CHECK.due("least and 1", x.plain(least + 1), OUTSIDE);
                CHECK.due("greatest less 1", x.plain(greatest - 1), OUTSIDE);
                CHECK.due("greatest and 1", x.plain(greatest + 1), OUTSIDE);
            }
        }
        CHECK.due("a 0 ahead of the last", x.plain(102), OUTSIDE);
        CHECK.due("a 0 at the end", x.plain(210), OUTSIDE);
        CHECK.due("a digit twice", x.plain(1123), OUTSIDE);
        CHECK.due("a digit above n", x.plain(124), OUTSIDE);
        CHECK.due("ten digits", x.plain(1234567890), OUTSIDE);
        CHECK.due("ten digits, none 0", x.plain(1234567891), OUTSIDE);
        CHECK.due("negative", x.plain(-21), OUTSIDE);
    }

    /** Of the numbers up to 99999 just 1 + 2 + 6 + 24 + 120 tell one. */
    private static void onlyThoseAreTold() {
        CHECK.sentence("1: .. each once: no other number tells one");
        Fresh fresh = new Fresh();
        int told = 0;
        for (int n = -9; n <= 99999; n++) {
            told += fresh.desk().plain(n) == OUTSIDE ? 0 : 1;
        }
        CHECK.due("how many tell one", told, 153);
    }

    private static void behindInPlace() {
        CHECK.sentence("1: those behind it stay in place");
        SchubertDesk x = new SchubertDesk();
        CHECK.due("after(21, 123456798)", x.after(21, 123456798), 213456798);
        CHECK.due("after(123456798, 21)", x.after(123456798, 21), 213456798);
        CHECK.due("length(21)", x.length(21), 1);
        CHECK.due("descents(21)", x.descents(21), 2);
        for (int i = 2; i <= 9; i++) {
            CHECK.due("code(21, " + i + ")", x.code(21, i), 0);
        }
        CHECK.due("below(54321, 54321)", x.below(54321, 543216789), 1);
    }

    private static void sameHoweverTold() {
        CHECK.sentence("1: Two are the same, if they are so by that");
        int[] plain = {1, 21, 132, 231, 312, 2143, 1432, 12354, 54321, 123465, 162345, 2134576};
        for (int w : plain) {
            for (int n = Integer.toString(w).length(); n <= 9; n++) {
                asking(w, Edges.toldWith(n, w));
                onSheets(w, Edges.toldWith(n, w));
            }
        }
    }

    private static void asking(int w, int told) {
        SchubertDesk x = new SchubertDesk();
        String at = w + " told as " + told + ": ";
        CHECK.due(at + "plain", x.plain(told), w);
        CHECK.due(at + "length", x.length(told), x.length(w));
        CHECK.due(at + "descents", x.descents(told), x.descents(w));
        CHECK.due(at + "inverse", x.inverse(told), x.inverse(w));
        CHECK.due(at + "after, first", x.after(told, 4312), x.after(w, 4312));
        CHECK.due(at + "after, second", x.after(4312, told), x.after(4312, w));
        CHECK.due(at + "below, first", x.below(told, 21354), x.below(w, 21354));
        CHECK.due(at + "below, second", x.below(1243, told), x.below(1243, w));
        CHECK.due(at + "below, both", x.below(told, w), 1);
        CHECK.due(at + "words", x.words(told), x.words(w));
        CHECK.due(at + "number", x.number(told, 1, 0, 0, 0), x.number(w, 1, 0, 0, 0));
        CHECK.due(at + "terms", x.terms(told), x.terms(w));
        CHECK.due(at + "value", x.value(told, 3, -2, 1, -1), x.value(w, 3, -2, 1, -1));
        CHECK.due(at + "times", x.times(told), x.times(w));
        CHECK.due(at + "avoids 1", x.avoids(told, 1), x.avoids(w, 1));
        CHECK.due(at + "avoids 2", x.avoids(told, 2), x.avoids(w, 2));
        for (int k = 1; k <= 9; k++) {
            CHECK.due(at + "code " + k, x.code(told, k), x.code(w, k));
            CHECK.due(at + "shape " + k, x.shape(told, k), x.shape(w, k));
        }
        for (int k = -3; k <= 8; k++) {
            CHECK.due(at + "step " + k, x.step(told, k), x.step(w, k));
            CHECK.due(at + "dream " + k, x.dream(told, k), x.dream(w, k));
        }
        for (int r = 1; r <= 8 && told <= 87654321; r++) {
            CHECK.due(at + "rise by " + r, x.rise(told, r, -1), x.rise(w, r, -1));
            CHECK.due(at + "rise by " + r, x.rise(told, r, 0), x.rise(w, r, 0));
        }
    }

    private static void onSheets(int w, int told) {
        SchubertDesk x = new SchubertDesk();
        SchubertDesk y = new SchubertDesk();
        String at = w + " told as " + told + ": ";
        CHECK.due(at + "add", x.add(2, told), y.add(2, w));
        CHECK.due(at + "part", x.part(0), y.part(0));
        CHECK.due(at + "times", x.times(told), y.times(w));
        CHECK.due(at + "times of plain", x.times(w), y.times(told));
        CHECK.due(at + "multiply", x.multiply(told), y.multiply(w));
        CHECK.due(at + "how many parts", x.part(-1), y.part(-1));
    }

    private static void plainIsFewest() {
        CHECK.sentence("1: its PLAIN number is the one with the fewest digits (1, if all stay in place)");
        SchubertDesk x = new SchubertDesk();
        CHECK.due("plain(1)", x.plain(1), 1);
        CHECK.due("plain(12)", x.plain(12), 1);
        CHECK.due("plain(123456789)", x.plain(123456789), 1);
        CHECK.due("plain(21)", x.plain(21), 21);
        CHECK.due("plain(213)", x.plain(213), 21);
        CHECK.due("plain(213456789)", x.plain(213456789), 21);
        CHECK.due("plain(213465789)", x.plain(213465789), 213465);
        CHECK.due("plain(123456798)", x.plain(123456798), 123456798);
        CHECK.due("plain(923456781)", x.plain(923456781), 923456781);
        CHECK.due("after that comes to 1", x.after(987654321, 987654321), 1);
        CHECK.due("inverse(213456789)", x.inverse(213456789), 21);
        CHECK.due("ofCode of 0", x.ofCode(0, 0, 0, 0), 1);
    }

    private static void lengthFromNoneToAll() {
        CHECK.sentence("1: LENGTH: how many twos of places i, j");
        SchubertDesk x = new SchubertDesk();
        CHECK.due("length(1)", x.length(1), 0);
        CHECK.due("length(123456789)", x.length(123456789), 0);
        CHECK.due("the first two", x.length(213456789), 1);
        CHECK.due("the last two", x.length(123456798), 1);
        CHECK.due("the first and the last", x.length(923456781), 15);
        CHECK.due("all", x.length(987654321), 36);
    }

    private static void codeCountsBehindAndLess() {
        CHECK.sentence("1: CODE: how many digits behind place i are less than digit i");
        SchubertDesk x = new SchubertDesk();
        for (int i = 1; i <= 9; i++) {
            CHECK.due("all of them: " + i, x.code(987654321, i), 9 - i);
            CHECK.due("none of them: " + i, x.code(1, i), 0);
            CHECK.due("not those ahead: " + i, x.code(234567891, i), i == 9 ? 0 : 1);
        }
        CHECK.due("the first above all", x.code(912345678, 1), 8);
        CHECK.due("the last two", x.code(123456798, 8), 1);
    }

    private static void descentPlaces() {
        CHECK.sentence("1: A DESCENT: a place i with digit i above digit i + 1");
        SchubertDesk x = new SchubertDesk();
        for (int i = 1; i <= 8; i++) {
            int[] w = Oracle.exchanged(Oracle.inPlace(), i, i + 1);
            int told = Oracle.plain(w);
            CHECK.due("descents(" + told + ")", x.descents(told), 1 << i);
        }
        CHECK.due("none", x.descents(1), 0);
        CHECK.due("none, told with nine digits", x.descents(123456789), 0);
        CHECK.due("all of 1 to 8, not 9", x.descents(987654321), 510);
        CHECK.due("9 in place is none", x.descents(876543219), 254);
    }

    private static void fitUpToFour() {
        CHECK.sentence("1: FIT: it has no DESCENT above 4");
        SchubertDesk x = new SchubertDesk();
        CHECK.due("none at all", x.terms(1), 1);
        CHECK.due("at 4", x.terms(12354), 4);
        CHECK.due("at 4, nine digits", x.terms(987612345), 1);
        CHECK.due("at 5", x.terms(123465), STATE);
        CHECK.due("at 6", x.terms(1234576), STATE);
        CHECK.due("at 7", x.terms(12345687), STATE);
        CHECK.due("at 8", x.terms(123456798), STATE);
        CHECK.due("at 4 and 5", x.terms(123654), STATE);
        CHECK.due("at 1 and 8", x.terms(213456798), STATE);
        CHECK.due("five digits of six", x.terms(543216), 1);
    }

    private static void smallUpToFive() {
        CHECK.sentence("1: SMALL: its PLAIN number has 5 digits at most");
        SchubertDesk x = new SchubertDesk();
        CHECK.due("one digit", x.words(1), 1);
        CHECK.due("five digits", x.words(12354), 1);
        CHECK.due("five digits, the longest", x.words(54321), 768);
        CHECK.due("five digits told with nine", x.words(543216789), 768);
        CHECK.due("one digit told with nine", x.words(123456789), 1);
        CHECK.due("six digits", x.words(123465), STATE);
        CHECK.due("six digits, the first moves", x.words(623451), STATE);
        CHECK.due("nine digits", x.words(123456798), STATE);
        CHECK.due("dream of five digits", x.dream(12354, -1), 4);
        CHECK.due("dream of five told with nine", x.dream(123546789, -1), 4);
        CHECK.due("dream of six digits", x.dream(123465, -1), STATE);
        CHECK.due("dream of six, the last stays", x.dream(1234657, -1), STATE);
    }

    private static void belowOrTheSame() {
        CHECK.sentence("1: u is BELOW v (or the same)");
        SchubertDesk x = new SchubertDesk();
        int[] all = {1, 21, 132, 54321, 123456798, 987654321};
        for (int w : all) {
            CHECK.due("below(" + w + ", " + w + ")", x.below(w, w), 1);
            CHECK.due("below(1, " + w + ")", x.below(1, w), 1);
            CHECK.due("below(" + w + ", 1)", x.below(w, 1), w == 1 ? 1 : 0);
            CHECK.due("below(" + w + ", 987654321)", x.below(w, 987654321), 1);
            CHECK.due("below(987654321, " + w + ")", x.below(987654321, w), w == 987654321 ? 1 : 0);
        }
        CHECK.due("the same, told otherwise", x.below(213456789, 21), 1);
    }

    /** Each p, q with q above p is the only one that tells of u exchanged at p, q of all in place. */
    private static void belowForAllPlacesAndDigits() {
        CHECK.sentence("1: .. if for all p, q of 1 to 9 ..");
        Fresh fresh = new Fresh();
        for (int i = 1; i <= 8; i++) {
            int u = Oracle.plain(Oracle.exchanged(Oracle.inPlace(), i, i + 1));
            for (int j = 1; j <= 8; j++) {
                int v = Oracle.plain(Oracle.exchanged(Oracle.inPlace(), j, j + 1));
                CHECK.due("below(" + u + ", " + v + ")", fresh.desk().below(u, v), i == j ? 1 : 0);
            }
            // All but the exchange at i, i + 1: above every other neighbours' exchange, not that one.
            int without = withoutExchangeAt(i);
            for (int j = 1; j <= 8; j++) {
                int v = Oracle.plain(Oracle.exchanged(Oracle.inPlace(), j, j + 1));
                CHECK.due("below(" + v + ", " + without + ")", fresh.desk().below(v, without),
                        i == j ? 0 : 1);
            }
        }
    }

    /** Beside one digit that both have, so that only how many there are tells. */
    private static void belowByHowMany() {
        CHECK.sentence("1: .. of digits 1 to p of u no more are q or more than of those of v");
        SchubertDesk x = new SchubertDesk();
        CHECK.due("two of u, one of v", x.below(4312, 4132), 0);
        CHECK.due("one of u, two of v", x.below(4132, 4312), 1);
        CHECK.due("three of u, two of v", x.below(543612, 543162), 0);
        CHECK.due("two of u, three of v", x.below(543162, 543612), 1);
        CHECK.due("alike up to the last but one", x.below(987654321, 987654312), 0);
        CHECK.due("alike up to the last but one", x.below(987654312, 987654321), 1);
    }

    /** Digits i down to 1, then 9 down to i + 1. */
    private static int withoutExchangeAt(int i) {
        int told = 0;
        for (int digit = i; digit >= 1; digit--) {
            told = told * 10 + digit;
        }
        for (int digit = 9; digit > i; digit--) {
            told = told * 10 + digit;
        }
        return told;
    }

    // ---- promises 2 to 5

    private static void plainOutside() {
        CHECK.sentence("promise 2: OUTSIDE");
        SchubertDesk x = new SchubertDesk();
        Edges.each(CHECK, "plain", NO_PERMUTATIONS, x::plain, OUTSIDE);
    }

    private static void lengthOutside() {
        CHECK.sentence("promise 3: OUTSIDE");
        SchubertDesk x = new SchubertDesk();
        Edges.each(CHECK, "length", NO_PERMUTATIONS, x::length, OUTSIDE);
    }

    private static void codeOutside() {
        CHECK.sentence("promise 4: OUTSIDE, by w");
        SchubertDesk x = new SchubertDesk();
        Edges.each(CHECK, "code(w, 1)", NO_PERMUTATIONS, w -> x.code(w, 1), OUTSIDE);
        Edges.each(CHECK, "code(w, 9)", NO_PERMUTATIONS, w -> x.code(w, 9), OUTSIDE);
        CHECK.due("neither w nor i", x.code(2, 0), OUTSIDE);
    }

    private static void codePlaces() {
        CHECK.sentence("promise 4: i 1 .. 9");
        SchubertDesk x = new SchubertDesk();
        CHECK.due("code(987654321, 1)", x.code(987654321, 1), 8);
        CHECK.due("code(987654321, 8)", x.code(987654321, 8), 1);
        CHECK.due("code(987654321, 9)", x.code(987654321, 9), 0);
        CHECK.due("behind the digits told", x.code(21, 9), 0);
        Edges.each(CHECK, "code(21, i)", List.of(0, -1, 10, 11, LEAST, MOST), i -> x.code(21, i), OUTSIDE);
    }

    private static void descentsOutside() {
        CHECK.sentence("promise 5: OUTSIDE");
        SchubertDesk x = new SchubertDesk();
        Edges.each(CHECK, "descents", NO_PERMUTATIONS, x::descents, OUTSIDE);
    }

    // ---- promises 6 and 7

    private static void inverseOutside() {
        CHECK.sentence("promise 6: OUTSIDE");
        SchubertDesk x = new SchubertDesk();
        Edges.each(CHECK, "inverse", NO_PERMUTATIONS, x::inverse, OUTSIDE);
    }

    private static void inverseAtTheEnds() {
        CHECK.sentence("promise 6: digit w(i) is i");
        SchubertDesk x = new SchubertDesk();
        CHECK.due("inverse(1)", x.inverse(1), 1);
        CHECK.due("inverse(912345678)", x.inverse(912345678), 234567891);
        CHECK.due("inverse(234567891)", x.inverse(234567891), 912345678);
        CHECK.due("inverse(987654321)", x.inverse(987654321), 987654321);
    }

    private static void afterOutside() {
        CHECK.sentence("promise 7: OUTSIDE, by u or by v");
        SchubertDesk x = new SchubertDesk();
        Edges.each(CHECK, "after(u, 21)", NO_PERMUTATIONS, u -> x.after(u, 21), OUTSIDE);
        Edges.each(CHECK, "after(21, v)", NO_PERMUTATIONS, v -> x.after(21, v), OUTSIDE);
        Edges.each(CHECK, "after(n, n)", NO_PERMUTATIONS, n -> x.after(n, n), OUTSIDE);
    }

    private static void afterOfUnlikeDigits() {
        CHECK.sentence("promise 7: digit i is that digit of u whose place is digit i of v");
        SchubertDesk x = new SchubertDesk();
        CHECK.due("after(1, 1)", x.after(1, 1), 1);
        CHECK.due("after(1, 987654321)", x.after(1, 987654321), 987654321);
        CHECK.due("after(987654321, 1)", x.after(987654321, 1), 987654321);
        CHECK.due("after(21, 912345678)", x.after(21, 912345678), 921345678);
        CHECK.due("after(912345678, 21)", x.after(912345678, 21), 192345678);
        CHECK.due("after(912345678, 234567891)", x.after(912345678, 234567891), 1);
    }

    // ---- promise 8

    private static void codesOfOfCode() {
        CHECK.sentence("promise 8: Ci 0 .. 9 - i");
        SchubertDesk x = new SchubertDesk();
        CHECK.due("all least", x.ofCode(0, 0, 0, 0), 1);
        CHECK.due("all greatest", x.ofCode(8, 7, 6, 5), 987612345);
        CHECK.due("c1 greatest", x.ofCode(8, 0, 0, 0), 912345678);
        CHECK.due("c2 greatest", x.ofCode(0, 7, 0, 0), 192345678);
        CHECK.due("c3 greatest", x.ofCode(0, 0, 6, 0), 129345678);
        CHECK.due("c4 greatest", x.ofCode(0, 0, 0, 5), 123945678);
        CHECK.due("c1 least", x.ofCode(0, 7, 6, 5), 198723456);
        CHECK.due("c4 least", x.ofCode(8, 7, 6, 0), 987123456);
    }

    private static void codesBeyond() {
        CHECK.sentence("promise 8: OUTSIDE, beyond 0 .. 9 - i");
        SchubertDesk x = new SchubertDesk();
        List<Integer> far = List.of(-1, -9, LEAST, MOST, 10, 100);
        Edges.each(CHECK, "c1", far, c -> x.ofCode(c, 0, 0, 0), OUTSIDE);
        Edges.each(CHECK, "c2", far, c -> x.ofCode(0, c, 0, 0), OUTSIDE);
        Edges.each(CHECK, "c3", far, c -> x.ofCode(0, 0, c, 0), OUTSIDE);
        Edges.each(CHECK, "c4", far, c -> x.ofCode(0, 0, 0, c), OUTSIDE);
        CHECK.due("c1 one beyond", x.ofCode(9, 0, 0, 0), OUTSIDE);
        CHECK.due("c2 one beyond", x.ofCode(0, 8, 0, 0), OUTSIDE);
        CHECK.due("c3 one beyond", x.ofCode(0, 0, 7, 0), OUTSIDE);
        CHECK.due("c4 one beyond", x.ofCode(0, 0, 0, 6), OUTSIDE);
        CHECK.due("one too small, one that makes up for it", x.ofCode(-1, 1, 0, 0), OUTSIDE);
        CHECK.due("all beyond", x.ofCode(9, 8, 7, 6), OUTSIDE);
    }

    private static void zeroBehind() {
        CHECK.sentence("promise 8: 0 behind");
        SchubertDesk x = new SchubertDesk();
        int w = x.ofCode(0, 3, 0, 2);
        int[] due = {0, 3, 0, 2, 0, 0, 0, 0, 0};
        for (int i = 1; i <= 9; i++) {
            CHECK.due("code(ofCode(0, 3, 0, 2), " + i + ")", x.code(w, i), due[i - 1]);
            CHECK.due("code(ofCode(8, 7, 6, 5), " + i + ")", x.code(x.ofCode(8, 7, 6, 5), i),
                    i <= 4 ? 9 - i : 0);
        }
    }

    // ---- promises 9 and 10

    private static void belowOutside() {
        CHECK.sentence("promise 9: OUTSIDE, by u or by v");
        SchubertDesk x = new SchubertDesk();
        Edges.each(CHECK, "below(u, 987654321)", NO_PERMUTATIONS, u -> x.below(u, 987654321), OUTSIDE);
        Edges.each(CHECK, "below(1, v)", NO_PERMUTATIONS, v -> x.below(1, v), OUTSIDE);
        Edges.each(CHECK, "below(n, n)", NO_PERMUTATIONS, n -> x.below(n, n), OUTSIDE);
    }

    private static void wordsOutside() {
        CHECK.sentence("promise 10: OUTSIDE");
        SchubertDesk x = new SchubertDesk();
        Edges.each(CHECK, "words", NO_PERMUTATIONS, x::words, OUTSIDE);
    }

    private static void wordsState() {
        CHECK.sentence("promise 10: STATE: it is not SMALL");
        SchubertDesk x = new SchubertDesk();
        CHECK.due("words(54321)", x.words(54321), 768);
        CHECK.due("words(543216)", x.words(543216), 768);
        CHECK.due("words(123465)", x.words(123465), STATE);
        CHECK.due("words(654321)", x.words(654321), STATE);
        CHECK.due("words(213465)", x.words(213465), STATE);
        CHECK.due("words(987654321)", x.words(987654321), STATE);
    }

    private static void wordsOfNoExchange() {
        CHECK.sentence("promise 10: by as many exchanges as its LENGTH is");
        SchubertDesk x = new SchubertDesk();
        CHECK.due("no exchange: one way", x.words(1), 1);
        CHECK.due("no exchange, told with five digits", x.words(12345), 1);
        CHECK.due("one exchange, the first", x.words(21), 1);
        CHECK.due("one exchange, the last", x.words(12354), 1);
        CHECK.due("two that can change places", x.words(21354), 2);
    }
}
