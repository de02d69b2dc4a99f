import java.util.Arrays;

/**
 * Schubert polynomials of permutations of up to nine digits, a sheet with a polynomial in four
 * variables, crosses of pipes, rises, steps and shapes. The document's promises are named by number.
 */
public final class SchubertDesk {
    public static final int OUTSIDE = -2, STATE = -3, OVER = -5, NONE = -9;
    public static final long LOST = Long.MIN_VALUE;

    private static final int PLACES = 9;
    private static final int GREATEST = 987654321;
    private static final int GREATEST_OF_EIGHT_DIGITS = 99999999;
    private static final int LAST_FIT_DESCENT = 4;
    private static final int SMALL_DIGITS = 5;
    private static final int LONGEST_SMALL = 10;

    private static final int VARIABLES = 4;
    /** One cell for each x1^e1 .. x4^e4 with ei up to 9 - i: 9 * 8 * 7 * 6. */
    private static final int CELLS = 3024;
    /** By how much a cell's index grows with the exponent of x1 to x4 (index 0 is not used). */
    private static final int[] STRIDE = {0, 1, 9, 72, 504};
    /** The highest exponent of x1 to x4 (index 0 is not used). */
    private static final int[] MOST = {0, 8, 7, 6, 5};

    private static final int LIMIT = 1000000000;
    private static final int FACTOR_LIMIT = 1000;
    private static final int POINT_LIMIT = 3;

    private static final int ROWS = 4;
    private static final int CROSS_PLACES = 10;
    private static final int CROSS_SETS = 1024;
    /** The bit of place 1 of rows 1 to 4 (index 0 is not used). */
    private static final int[] FIRST_BIT = {0, 0, 4, 7, 9};
    /** The ten bits in the order in which crosses are read, and where each of them exchanges. */
    private static final int[] READ_BIT = {3, 2, 1, 0, 6, 5, 4, 8, 7, 9};
    private static final int[] READ_PLACE = {4, 3, 2, 1, 4, 3, 2, 4, 3, 4};

    /** More than any rises (20), ladders (10) or heirs (7) that there can be. */
    private static final int LIST_ROOM = 32;

    private final Digits first = new Digits();
    private final Digits second = new Digits();
    private final Digits third = new Digits();
    private final Ascending list = new Ascending(LIST_ROOM);
    private final Grid page = new Grid();
    private final Single single = new Single();
    private final Parts parts = new Parts();

    /** Promise 1. */
    public SchubertDesk() {
    }

    // ---- 1 permutations

    /** Promise 2. */
    public int plain(int w) {
        return first.read(w) ? first.plainNumber() : OUTSIDE;
    }

    /** Promise 3. */
    public int length(int w) {
        return first.read(w) ? first.inversions() : OUTSIDE;
    }

    /** Promise 4. */
    public int code(int w, int i) {
        if (!first.read(w) || i < 1 || i > PLACES) {
            return OUTSIDE;
        }
        return first.codeAt(i);
    }

    /** Promise 5. */
    public int descents(int w) {
        return first.read(w) ? first.descentSet() : OUTSIDE;
    }

    /** Promise 6. */
    public int inverse(int w) {
        if (!first.read(w)) {
            return OUTSIDE;
        }
        second.becomeInverse(first);
        return second.plainNumber();
    }

    /** Promise 7. */
    public int after(int u, int v) {
        if (!first.read(u) || !second.read(v)) {
            return OUTSIDE;
        }
        third.becomeProduct(first, second);
        return third.plainNumber();
    }

    /** Promise 8. */
    public int ofCode(int c1, int c2, int c3, int c4) {
        int cell = cellOf(c1, c2, c3, c4);
        if (cell < 0) {
            return OUTSIDE;
        }
        first.becomeOfCode(cell);
        return first.plainNumber();
    }

    /** Promise 9. */
    public int below(int u, int v) {
        if (!first.read(u) || !second.read(v)) {
            return OUTSIDE;
        }
        return first.isBelow(second) ? 1 : 0;
    }

    /** Promise 10. */
    public int words(int w) {
        if (!first.read(w)) {
            return OUTSIDE;
        }
        return first.isSmall() ? waysDown(first, 0) : STATE;
    }

    // ---- 2 polynomials

    /** Promise 11. */
    public int number(int w, int e1, int e2, int e3, int e4) {
        int cell = fitCell(w);
        if (cell == OUTSIDE || isAnyNegative(e1, e2, e3, e4)) {
            return OUTSIDE;
        }
        if (cell < 0) {
            return cell;
        }
        single.make(cell);
        return (int) single.grid.at(cellOf(e1, e2, e3, e4));
    }

    /** Promise 12. */
    public int terms(int w) {
        int cell = fitCell(w);
        if (cell < 0) {
            return cell;
        }
        single.make(cell);
        return single.grid.filled();
    }

    /** Promise 13. */
    public long value(int w, int x1, int x2, int x3, int x4) {
        int cell = fitCell(w);
        if (cell < 0 || !isPoint(x1) || !isPoint(x2) || !isPoint(x3) || !isPoint(x4)) {
            return LOST;
        }
        single.make(cell);
        return single.grid.valueAt(x1, x2, x3, x4);
    }

    // ---- 3 the sheet

    /** Promise 14. */
    public int wipe() {
        int had = page.filled();
        page.clear();
        parts.forget();
        return had;
    }

    /** Promise 15. */
    public int add(int c, int w) {
        int cell = fitCell(w);
        if (cell == OUTSIDE || c < -FACTOR_LIMIT || c > FACTOR_LIMIT) {
            return OUTSIDE;
        }
        if (cell < 0) {
            return cell;
        }
        single.make(cell);
        Grid draft = parts.lendCells();
        draft.copy(page);
        draft.addTimes(c, single.grid, CELLS);
        return takeDraft(draft);
    }

    /** Promise 16. */
    public int multiply(int w) {
        int cell = fitCell(w);
        if (cell < 0) {
            return cell;
        }
        single.make(cell);
        page.measure();
        single.grid.measure();
        if (page.filled() == 0) {
            return 0;
        }
        if (!page.hasRoomFor(single.grid)) {
            return OVER;
        }
        Grid draft = parts.lendCells();
        draft.becomeProduct(page, single.grid);
        return takeDraft(draft);
    }

    /** Promise 17. */
    public int difference(int i) {
        if (i < 1 || i >= VARIABLES) {
            return OUTSIDE;
        }
        Grid draft = parts.lendCells();
        draft.copy(page);
        draft.measure();
        draft.differ(i, 0, draft.degreeBound());
        return takeDraft(draft);
    }

    /** Promise 18. */
    public long sheet(int e1, int e2, int e3, int e4) {
        if (isAnyNegative(e1, e2, e3, e4)) {
            return LOST;
        }
        return page.at(cellOf(e1, e2, e3, e4));
    }

    /** Promise 19. */
    public int part(int k) {
        if (k < -1) {
            return OUTSIDE;
        }
        parts.find(page, single, first);
        return parts.numbers.answer(k);
    }

    /** Promise 20. */
    public long times(int w) {
        int cell = fitCell(w);
        if (cell < 0) {
            return LOST;
        }
        parts.find(page, single, first);
        return parts.counts.at(cell);
    }

    // ---- 4 crosses

    /** Promise 21. */
    public int makes(int crosses) {
        if (!isCrossSet(crosses)) {
            return OUTSIDE;
        }
        first.becomeMade(crosses);
        return first.inversions() == Integer.bitCount(crosses) ? first.plainNumber() : NONE;
    }

    /** Promise 22. */
    public int dream(int w, int k) {
        if (!first.read(w) || k < -1) {
            return OUTSIDE;
        }
        if (!first.isSmall()) {
            return STATE;
        }
        int length = first.inversions();
        int found = 0;
        for (int crosses = 0; crosses < CROSS_SETS; crosses++) {
            if (Integer.bitCount(crosses) == length && isMadeBy(first, crosses)) {
                if (found == k) {
                    return crosses;
                }
                found++;
            }
        }
        return k == -1 ? found : NONE;
    }

    /** Promise 23. */
    public int ladder(int crosses, int k) {
        if (!isCrossSet(crosses) || k < -1) {
            return OUTSIDE;
        }
        list.clear();
        for (int row = 2; row <= ROWS; row++) {
            for (int place = 1; place <= SMALL_DIGITS - row; place++) {
                putLadder(crosses, row, place);
            }
        }
        return list.answer(k);
    }

    // ---- 5 rises, steps

    /** Promise 24. */
    public int rise(int w, int r, int k) {
        if (w > GREATEST_OF_EIGHT_DIGITS || !first.read(w) || r < 1 || r >= PLACES || k < -1) {
            return OUTSIDE;
        }
        int length = first.inversions() + 1;
        list.clear();
        for (int a = 1; a <= r; a++) {
            for (int b = r + 1; b <= PLACES; b++) {
                putExchanged(first, a, b, length);
            }
        }
        return list.answer(k);
    }

    /** Promise 25. */
    public int step(int w, int k) {
        if (!first.read(w) || k < -3) {
            return OUTSIDE;
        }
        int r = first.lastDescent();
        if (r == 0) {
            return STATE;
        }
        int s = first.lastLessThan(r);
        if (k == -3) {
            return r;
        }
        if (k == -2) {
            return s;
        }
        int length = first.inversions();
        first.exchange(r, s);
        if (k == 0) {
            return first.plainNumber();
        }
        list.clear();
        for (int q = 1; q < r; q++) {
            putExchanged(first, q, r, length);
        }
        return list.answer(k == -1 ? -1 : k - 1);
    }

    // ---- 6 shapes

    /** Promise 26. */
    public int shape(int w, int k) {
        if (!first.read(w) || k < 1) {
            return OUTSIDE;
        }
        if (Integer.bitCount(first.descentSet()) != 1) {
            return STATE;
        }
        int r = first.lastDescent();
        if (k > r) {
            return NONE;
        }
        int place = r + 1 - k;
        return first.digit(place) - place;
    }

    /** Promise 27. */
    public int avoids(int w, int how) {
        if (!first.read(w) || how < 1 || how > 2) {
            return OUTSIDE;
        }
        boolean has = how == 1 ? first.hasLeastGreatestMiddle() : first.hasTwoOneFourThree();
        return has ? 0 : 1;
    }

    // ---- helpers

    /** The cell of these exponents, or -1 if the grid has none for them. */
    private static int cellOf(int e1, int e2, int e3, int e4) {
        if (isAnyNegative(e1, e2, e3, e4) || e1 > 8 || e2 > 7 || e3 > 6 || e4 > 5) {
            return -1;
        }
        return e1 + 9 * e2 + 72 * e3 + 504 * e4;
    }

    /** The exponent of xi at a cell. */
    private static int exponentAt(int cell, int i) {
        switch (i) {
            case 1:
                return cell % 9;
            case 2:
                return cell / 9 % 8;
            case 3:
                return cell / 72 % 7;
            case 4:
                return cell / 504;
            default:
                return 0;
        }
    }

    private static boolean isAnyNegative(int e1, int e2, int e3, int e4) {
        return e1 < 0 || e2 < 0 || e3 < 0 || e4 < 0;
    }

    private static boolean isPoint(int x) {
        return x >= -POINT_LIMIT && x <= POINT_LIMIT;
    }

    private static boolean isCrossSet(int crosses) {
        return crosses >= 0 && crosses < CROSS_SETS;
    }

    /** The cell whose exponents are the code of w; OUTSIDE or STATE, if w is none that is fit. */
    private int fitCell(int w) {
        if (!first.read(w)) {
            return OUTSIDE;
        }
        return first.isFit() ? first.codeCell() : STATE;
    }

    /** Makes the draft the sheet, unless that would be over. */
    private int takeDraft(Grid draft) {
        if (!draft.isWithinLimit()) {
            return OVER;
        }
        page.copy(draft);
        return page.filled();
    }

    /** In how many ways exchanges of neighbours, each of which shortens w, put all in place. */
    private static int waysDown(Digits w, int depth) {
        if (depth > LONGEST_SMALL) {
            return 0;
        }
        int ways = 0;
        boolean inPlace = true;
        for (int i = 1; i < SMALL_DIGITS; i++) {
            if (w.digit(i) > w.digit(i + 1)) {
                inPlace = false;
                w.exchange(i, i + 1);
                ways += waysDown(w, depth + 1);
                w.exchange(i, i + 1);
            }
        }
        return inPlace ? 1 : ways;
    }

    private boolean isMadeBy(Digits w, int crosses) {
        second.becomeMade(crosses);
        return second.isSame(w);
    }

    private static boolean isCrossAt(int crosses, int row, int place) {
        if (row < 1 || row > ROWS || place < 1 || place > SMALL_DIGITS - row) {
            return false;
        }
        return (crosses & bitOf(row, place)) != 0;
    }

    private static int bitOf(int row, int place) {
        return row < 1 || row > ROWS ? 0 : 1 << (FIRST_BIT[row] + place - 1);
    }

    /** Puts what the ladder of the cross at this row and place makes on the list, if it has one. */
    private void putLadder(int crosses, int row, int place) {
        if (!isCrossAt(crosses, row, place) || isCrossAt(crosses, row, place + 1)) {
            return;
        }
        for (int h = row - 1; h >= 1; h--) {
            boolean here = isCrossAt(crosses, h, place);
            boolean next = isCrossAt(crosses, h, place + 1);
            if (!here && !next) {
                list.put((crosses ^ bitOf(row, place)) | bitOf(h, place + 1));
            }
            if (!here || !next) {
                return;
            }
        }
    }

    /** Puts w exchanged at a, b on the list, if its length is this one. */
    private void putExchanged(Digits w, int a, int b, int length) {
        w.exchange(a, b);
        if (w.inversions() == length) {
            list.put(w.plainNumber());
        }
        w.exchange(a, b);
    }

    /** A permutation: its digits at places 1 to 9. */
    private static final class Digits {
        private final int[] row = new int[PLACES + 1];

        /** Takes on the permutation that is told so; false, if none is. */
        boolean read(int told) {
            if (told < 1 || told > GREATEST) {
                return false;
            }
            int count = 0;
            for (int rest = told; rest > 0 && count < PLACES; rest /= 10) {
                count++;
            }
            stayInPlace();
            int seen = 0;
            int rest = told;
            for (int place = count; place >= 1; place--) {
                int digit = rest % 10;
                if (digit < 1 || digit > count || (seen >> digit & 1) == 1) {
                    return false;
                }
                seen |= 1 << digit;
                row[place] = digit;
                rest /= 10;
            }
            return true;
        }

        void stayInPlace() {
            for (int place = 1; place <= PLACES; place++) {
                row[place] = place;
            }
        }

        /** Digits behind the ninth stay in place. */
        int digit(int place) {
            return place >= 1 && place <= PLACES ? row[place] : place;
        }

        void put(int place, int digit) {
            if (place >= 1 && place <= PLACES) {
                row[place] = digit;
            }
        }

        void exchange(int a, int b) {
            int kept = digit(a);
            put(a, digit(b));
            put(b, kept);
        }

        boolean isSame(Digits other) {
            for (int place = 1; place <= PLACES; place++) {
                if (row[place] != other.row[place]) {
                    return false;
                }
            }
            return true;
        }

        void becomeInverse(Digits of) {
            for (int place = 1; place <= PLACES; place++) {
                put(of.digit(place), place);
            }
        }

        void becomeProduct(Digits u, Digits v) {
            for (int place = 1; place <= PLACES; place++) {
                row[place] = u.digit(v.digit(place));
            }
        }

        /** Takes on the fit one whose code is the exponents of a cell. */
        void becomeOfCode(int cell) {
            int used = 0;
            for (int place = 1; place <= PLACES; place++) {
                int digit = unusedAbove(used, exponentAt(cell, place));
                used |= 1 << digit;
                row[place] = digit;
            }
        }

        /** The unused digit with so many unused ones less than it. */
        private static int unusedAbove(int used, int less) {
            int left = less;
            for (int digit = 1; digit < PLACES; digit++) {
                if ((used >> digit & 1) == 0) {
                    if (left == 0) {
                        return digit;
                    }
                    left--;
                }
            }
            return PLACES;
        }

        /** Takes on what a set of crosses makes. */
        void becomeMade(int crosses) {
            stayInPlace();
            for (int k = 0; k < CROSS_PLACES; k++) {
                if ((crosses >> READ_BIT[k] & 1) == 1) {
                    exchange(READ_PLACE[k], READ_PLACE[k] + 1);
                }
            }
        }

        /** How many digits the plain number has. */
        int plainCount() {
            int count = PLACES;
            while (count > 1 && row[count] == count) {
                count--;
            }
            return count;
        }

        int plainNumber() {
            int count = plainCount();
            int told = 0;
            for (int place = 1; place <= count && place <= PLACES; place++) {
                told = told * 10 + row[place];
            }
            return told;
        }

        boolean isSmall() {
            return plainCount() <= SMALL_DIGITS;
        }

        int codeAt(int place) {
            int less = 0;
            for (int behind = place + 1; behind <= PLACES; behind++) {
                if (digit(behind) < digit(place)) {
                    less++;
                }
            }
            return less;
        }

        int inversions() {
            int sum = 0;
            for (int place = 1; place < PLACES; place++) {
                sum += codeAt(place);
            }
            return sum;
        }

        /** The cell whose exponents are C1 to C4; Ci is at most 9 - i, so there is one. */
        int codeCell() {
            return cellOf(codeAt(1), codeAt(2), codeAt(3), codeAt(4));
        }

        int descentSet() {
            int set = 0;
            for (int place = 1; place < PLACES; place++) {
                if (row[place] > row[place + 1]) {
                    set |= 1 << place;
                }
            }
            return set;
        }

        boolean isFit() {
            return lastDescent() <= LAST_FIT_DESCENT;
        }

        /** 0, if there is none. */
        int lastDescent() {
            int last = 0;
            for (int place = 1; place < PLACES; place++) {
                if (row[place] > row[place + 1]) {
                    last = place;
                }
            }
            return last;
        }

        /** The last place with a digit less than the one at place r (r itself, if there is none). */
        int lastLessThan(int r) {
            int last = r;
            for (int place = 1; place <= PLACES; place++) {
                if (row[place] < digit(r)) {
                    last = place;
                }
            }
            return last;
        }

        boolean isBelow(Digits other) {
            for (int least = 1; least <= PLACES; least++) {
                int more = 0;
                for (int place = 1; place <= PLACES; place++) {
                    more += row[place] >= least ? 1 : 0;
                    more -= other.row[place] >= least ? 1 : 0;
                    if (more > 0) {
                        return false;
                    }
                }
            }
            return true;
        }

        boolean hasLeastGreatestMiddle() {
            for (int b = 2; b < PLACES; b++) {
                for (int c = b + 1; c <= PLACES; c++) {
                    if (row[c] < row[b] && leastAhead(b) < row[c]) {
                        return true;
                    }
                }
            }
            return false;
        }

        private int leastAhead(int place) {
            int least = PLACES + 1;
            for (int ahead = 1; ahead < place; ahead++) {
                least = Math.min(least, digit(ahead));
            }
            return least;
        }

        boolean hasTwoOneFourThree() {
            for (int c = 3; c < PLACES; c++) {
                for (int d = c + 1; d <= PLACES; d++) {
                    if (row[d] < row[c] && hasFallAhead(c, row[d])) {
                        return true;
                    }
                }
            }
            return false;
        }

        /** Whether ahead of a place a digit below a limit has a lesser one behind it. */
        private boolean hasFallAhead(int place, int limit) {
            int greatest = 0;
            for (int ahead = 1; ahead < place; ahead++) {
                int digit = digit(ahead);
                if (digit < greatest) {
                    return true;
                }
                if (digit < limit) {
                    greatest = Math.max(greatest, digit);
                }
            }
            return false;
        }
    }

    /** A polynomial in x1 to x4 with the exponent of xi up to 9 - i: a number in each cell. */
    private static final class Grid {
        private final long[] cell = new long[CELLS];
        /** No exponent of x1 to x4 is above these, once measured (index 0 is not used). */
        private final int[] top = new int[VARIABLES + 1];

        long at(int index) {
            return index >= 0 && index < CELLS ? cell[index] : 0;
        }

        void clear() {
            Arrays.fill(cell, 0L);
        }

        void copy(Grid other) {
            System.arraycopy(other.cell, 0, cell, 0, CELLS);
        }

        /** How many numbers are not 0. */
        int filled() {
            int count = 0;
            for (int k = 0; k < CELLS; k++) {
                if (cell[k] != 0) {
                    count++;
                }
            }
            return count;
        }

        boolean isWithinLimit() {
            for (int k = 0; k < CELLS; k++) {
                if (cell[k] > LIMIT || cell[k] < -LIMIT) {
                    return false;
                }
            }
            return true;
        }

        /** Adds another one so many times, in the cells ahead of one. */
        void addTimes(long factor, Grid other, int end) {
            for (int k = 0; k < end && k < CELLS; k++) {
                cell[k] += factor * other.cell[k];
            }
        }

        void becomeMonomial(int index) {
            clear();
            if (index >= 0 && index < CELLS) {
                cell[index] = 1;
            }
            for (int i = 1; i <= VARIABLES; i++) {
                top[i] = exponentAt(index, i);
            }
        }

        void measure() {
            Arrays.fill(top, 0);
            for (int k = 0; k < CELLS; k++) {
                if (cell[k] != 0) {
                    for (int i = 1; i <= VARIABLES; i++) {
                        top[i] = Math.max(top[i], exponentAt(k, i));
                    }
                }
            }
        }

        int degreeBound() {
            return top[1] + top[2] + top[3] + top[4];
        }

        /** Highest exponents add up in a product, so the sums tell whether it stays in the grid. */
        boolean hasRoomFor(Grid other) {
            for (int i = 1; i <= VARIABLES; i++) {
                if (top[i] + other.top[i] > MOST[i]) {
                    return false;
                }
            }
            return true;
        }

        /** The product of two that have room for each other: indices add up as exponents do. */
        void becomeProduct(Grid one, Grid other) {
            clear();
            for (int shift = 0; shift < CELLS; shift++) {
                long factor = other.cell[shift];
                if (factor != 0) {
                    for (int k = 0; k < CELLS - shift; k++) {
                        cell[k + shift] += factor * one.cell[k];
                    }
                }
            }
        }

        long valueAt(int x1, int x2, int x3, int x4) {
            long all = 0;
            for (int e4 = MOST[4]; e4 >= 0; e4--) {
                long inThree = 0;
                for (int e3 = MOST[3]; e3 >= 0; e3--) {
                    long inTwo = 0;
                    for (int e2 = MOST[2]; e2 >= 0; e2--) {
                        inTwo = inTwo * x2 + valueOfLine(cellOf(0, e2, e3, e4), x1);
                    }
                    inThree = inThree * x3 + inTwo;
                }
                all = all * x4 + inThree;
            }
            return all;
        }

        private long valueOfLine(int start, int x1) {
            long sum = 0;
            for (int e1 = MOST[1]; e1 >= 0; e1--) {
                sum = sum * x1 + at(start + e1);
            }
            return sum;
        }

        /** Replaces what has these degrees by its difference by i; 'top' must have been measured. */
        void differ(int i, int lowest, int highest) {
            if (i < 1 || i >= VARIABLES) {
                return;
            }
            // Upwards: what has degree d is used up before the difference of degree d + 1 lands there.
            for (int degree = lowest; degree <= highest; degree++) {
                lowerDegree(i, degree);
            }
            int most = Math.max(top[i], top[i + 1]);
            top[i] = Math.max(most - 1, 0);
            top[i + 1] = top[i];
        }

        private void lowerDegree(int i, int degree) {
            int p = i == 1 ? 3 : 1;
            int q = i == 3 ? 2 : 4;
            for (int a = 0; a <= top[p]; a++) {
                for (int b = 0; b <= top[q]; b++) {
                    lowerLine(i, a * STRIDE[p] + b * STRIDE[q], degree - a - b);
                }
            }
        }

        /**
         * The difference by i of the cells in which the exponents of xi and xi+1 add up to 'sum'.
         * In it the numbers at (m, sum - 1 - m) and (sum - 1 - m, m) are equal: those at (a, b)
         * with a above m, less those with b above m. So one running sum tells them all.
         */
        private void lowerLine(int i, int base, int sum) {
            if (i < 1 || i >= VARIABLES) {
                return;
            }
            long running = 0;
            int start = Math.min(sum - 1, Math.max(top[i], top[i + 1]));
            for (int m = start; 2 * m >= sum - 2; m--) {
                int one = pairCell(i, base, m + 1, sum - m - 1);
                int other = pairCell(i, base, sum - m - 1, m + 1);
                running += at(one) - at(other);
                put(one, 0);
                put(other, 0);
                put(pairCell(i, base, m, sum - 1 - m), running);
                put(pairCell(i, base, sum - 1 - m, m), running);
            }
        }

        /** The cell with exponents a, b of xi, xi+1 beside those of the base; -1: there is none. */
        private static int pairCell(int i, int base, int a, int b) {
            if (i < 1 || i >= VARIABLES || a < 0 || a > MOST[i] || b < 0 || b > MOST[i + 1]) {
                return -1;
            }
            return base + a * STRIDE[i] + b * STRIDE[i + 1];
        }

        private void put(int index, long number) {
            if (index >= 0 && index < CELLS) {
                cell[index] = number;
            }
        }
    }

    /** S of one fit permutation at a time, kept until that of another is asked for. */
    private static final class Single {
        final Grid grid = new Grid();
        private final int[] code = new int[VARIABLES + 1];
        /** Each exchange makes one more fall among the first four digits: there are at most six. */
        private final int[] way = new int[6];
        private int made = -1;

        /** Makes S of the one whose code is the exponents of a cell. */
        void make(int cell) {
            if (cell == made) {
                return;
            }
            made = cell;
            for (int i = 1; i <= VARIABLES; i++) {
                code[i] = exponentAt(cell, i);
            }
            int steps = climb();
            grid.becomeMonomial(cellOf(code[1], code[2], code[3], code[4]));
            int degree = code[1] + code[2] + code[3] + code[4];
            for (int k = steps - 1; k >= 0 && k < way.length; k--) {
                grid.differ(way[k], degree, degree);
                degree--;
            }
        }

        /** Exchanges until no number of the code is less than the next; the way's length. */
        private int climb() {
            int steps = 0;
            for (int i = firstRise(); i > 0 && steps < way.length; i = firstRise()) {
                way[steps] = i;
                steps++;
                exchangeAt(i);
            }
            return steps;
        }

        /** The first i with Ci less than Ci+1; 0, if there is none. */
        private int firstRise() {
            for (int i = 1; i < VARIABLES; i++) {
                if (code[i] < code[i + 1]) {
                    return i;
                }
            }
            return 0;
        }

        /** The greater digit comes to the front, with the lesser one behind it now too. */
        private void exchangeAt(int i) {
            if (i < 1 || i >= VARIABLES) {
                return;
            }
            int kept = code[i];
            code[i] = code[i + 1] + 1;
            code[i + 1] = kept;
        }
    }

    /** The sheet told as a sum of S of permutations, kept until the sheet changes. */
    private static final class Parts {
        /** In the cell of each permutation's code: how many times it is there. */
        final Grid counts = new Grid();
        final Ascending numbers = new Ascending(CELLS);
        private boolean known = false;

        void forget() {
            known = false;
        }

        /**
         * Cells for a draft of the next sheet; the parts are found anew after that. So an object
         * has one grid less: all that are made in a run share one room.
         */
        Grid lendCells() {
            forget();
            return counts;
        }

        /**
         * S of w has 1 in the cell of w's code, and else only cells ahead of that one. So, from
         * the last cell down, what stands in a cell is how many times that permutation is there.
         */
        void find(Grid page, Single single, Digits digits) {
            if (known) {
                return;
            }
            counts.copy(page);
            numbers.clear();
            for (int cell = CELLS - 1; cell >= 0; cell--) {
                long count = counts.at(cell);
                if (count != 0) {
                    single.make(cell);
                    counts.addTimes(-count, single.grid, cell);
                    digits.becomeOfCode(cell);
                    numbers.put(digits.plainNumber());
                }
            }
            known = true;
        }
    }

    /** Unlike numbers, the least first. */
    private static final class Ascending {
        private final int[] items;
        private int size = 0;

        Ascending(int room) {
            items = new int[Math.max(room, 1)];
        }

        void clear() {
            size = 0;
        }

        void put(int item) {
            int place = 0;
            while (place < size && place < items.length && items[place] < item) {
                place++;
            }
            boolean isThere = place < size && place < items.length && items[place] == item;
            if (isThere || size >= items.length) {
                return;
            }
            System.arraycopy(items, place, items, place + 1, size - place);
            items[place] = item;
            size++;
        }

        /** How many (k -1), the k-th, or NONE. */
        int answer(int k) {
            if (k == -1) {
                return size;
            }
            return k >= 0 && k < size && k < items.length ? items[k] : NONE;
        }
    }
}
