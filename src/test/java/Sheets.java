import java.util.List;
import java.util.Map;

/** Ways to bring a sheet to where a test wants it, and to see all that it has. */
final class Sheets {
    static final int LIMIT = 1000000000;

    private Sheets() {
    }

    /** Makes the sheet, which has 0, this number, in at most 181 calls: it is doubled and added to. */
    static void grow(SchubertDesk x, int goal) {
        int shift = 0;
        while (Math.abs(goal / (1 << shift)) > 1000) {
            shift++;
        }
        x.add(goal / (1 << shift), 1);
        while (shift > 0) {
            shift--;
            twice(x);
            x.add(goal / (1 << shift) % 2, 1);
        }
    }

    /** Found by a search for a way on which no number is above the doubled one. */
    static void twice(SchubertDesk x) {
        x.multiply(132);
        x.multiply(132);
        x.difference(2);
        x.multiply(321);
        x.difference(1);
        x.difference(2);
        x.difference(1);
        x.difference(3);
    }

    /**
     * Whether the sheet has just these numbers. To add 0 times S of 1 tells how many there are, so
     * one call more than there are numbers sees all of the sheet.
     */
    static boolean has(SchubertDesk x, Poly due) {
        boolean is = x.add(0, 1) == due.size();
        for (Map.Entry<List<Integer>, Long> entry : due.numbers.entrySet()) {
            List<Integer> e = entry.getKey();
            is &= x.sheet(e.get(0), e.get(1), e.get(2), e.get(3)) == entry.getValue();
        }
        return is;
    }

    /** S of w, so many times. */
    static Poly times(long count, int w) {
        return new Poly().plus(Oracle.single(Oracle.read(w)), count);
    }
}
