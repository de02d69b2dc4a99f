/**
 * Any calls with any numbers: none throws, all answers are the same again, and calls that ask change
 * nothing: a second object that gets only the calls of the sheet answers them as the first one does.
 */
public final class AnyCallTest {
    private static final Check CHECK = new Check("AnyCallTest");
    private static final int CALLS = 26;
    private static final int FIRST_OF_SHEET = 12;
    private static final int LAST_OF_SHEET = 18;
    private static final int[] NUMBERS = {0, 1, -1, 2, -2, 3, -3, 4, -4, 5, 6, 7, 8, 9, 10, -9, 21, 132,
        312, 231, 321, 1243, 1432, 2143, 12354, 15432, 54321, 123465, 654321, 162534, 512, 1023, 1024,
        1000, -1000, 1001, 123456789, 123456798, 987654321, 987612345, 12345678, 87654321, 99999999,
        1234567890, Integer.MAX_VALUE, Integer.MIN_VALUE};
    private static final int[] SMALL_ONES = {1, 21, 132, 312, 231, 1432, 2143, 12354, 13254};

    private static long seed = 1;

    public static void main(String[] args) {
        for (int run = 1; run <= 150; run++) {
            SchubertDesk all = new SchubertDesk();
            SchubertDesk again = new SchubertDesk();
            SchubertDesk sheetOnly = new SchubertDesk();
            for (int call = 0; call < 512; call++) {
                int which = draw(CALLS);
                int[] n = numbers(which);
                long answer = call(all, which, n);
                String told = run + "." + call + " call " + which;
                CHECK.due(told + " again", call(again, which, n), answer);
                if (which >= FIRST_OF_SHEET && which <= LAST_OF_SHEET) {
                    CHECK.due(told + " alone", call(sheetOnly, which, n), answer);
                }
            }
        }
        CHECK.end();
    }

    /** Often such as the sheet can take, else any. */
    private static int[] numbers(int which) {
        int[] n = new int[5];
        for (int k = 0; k < n.length; k++) {
            n[k] = draw(12) == 0 ? (int) (seed >>> 16) : NUMBERS[draw(NUMBERS.length)];
        }
        if (which >= FIRST_OF_SHEET && which <= LAST_OF_SHEET && draw(4) > 0) {
            int w = SMALL_ONES[draw(SMALL_ONES.length)];
            int c = draw(2001) - 1000;
            n[0] = which == 13 ? c : which == 15 ? 1 + draw(3) : which == 17 ? draw(6) - 1 : w;
            n[1] = w;
        }
        return n;
    }

    private static long call(SchubertDesk x, int which, int[] n) {
        switch (which) {
            case 0: return x.plain(n[0]);
            case 1: return x.length(n[0]);
            case 2: return x.code(n[0], n[1]);
            case 3: return x.descents(n[0]);
            case 4: return x.inverse(n[0]);
            case 5: return x.after(n[0], n[1]);
            case 6: return x.ofCode(n[0], n[1], n[2], n[3]);
            case 7: return x.below(n[0], n[1]);
            case 8: return x.words(n[0]);
            case 9: return x.number(n[0], n[1], n[2], n[3], n[4]);
            case 10: return x.terms(n[0]);
            case 11: return x.value(n[0], n[1], n[2], n[3], n[4]);
            case 12: return n[4] % 8 == 0 ? x.wipe() : x.part(-1);
            case 13: return x.add(n[0], n[1]);
            case 14: return x.multiply(n[0]);
            case 15: return x.difference(n[0]);
            case 16: return x.sheet(n[0], n[1], n[2], n[3]);
            case 17: return x.part(n[0]);
            case 18: return x.times(n[0]);
            case 19: return x.makes(n[0]);
            case 20: return x.dream(n[0], n[1]);
            case 21: return x.ladder(n[0], n[1]);
            case 22: return x.rise(n[0], n[1], n[2]);
            case 23: return x.step(n[0], n[1]);
            case 24: return x.shape(n[0], n[1]);
            default: return x.avoids(n[0], n[1]);
        }
    }

    private static int draw(int below) {
        seed = seed * 6364136223846793005L + 1442695040888963407L;
        return (int) ((seed >>> 33) % below);
    }
}
