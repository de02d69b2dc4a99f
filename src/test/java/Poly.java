import java.util.ArrayList;
import java.util.HashMap;
import java.util.List;
import java.util.Map;

/** A polynomial in x1 to x4: a map from exponents to numbers that are not 0. */
final class Poly {
    final Map<List<Integer>, Long> numbers = new HashMap<>();

    void add(List<Integer> exponents, long number) {
        long sum = at(exponents) + number;
        if (sum == 0) {
            numbers.remove(exponents);
        } else {
            numbers.put(exponents, sum);
        }
    }

    long at(List<Integer> exponents) {
        return numbers.getOrDefault(exponents, 0L);
    }

    Poly plus(Poly other, long factor) {
        Poly sum = new Poly();
        numbers.forEach(sum::add);
        other.numbers.forEach((e, c) -> sum.add(e, factor * c));
        return sum;
    }

    Poly times(Poly other) {
        Poly product = new Poly();
        numbers.forEach((e, c) -> other.numbers.forEach((f, d) -> {
            List<Integer> both = new ArrayList<>();
            for (int k = 0; k < 4; k++) {
                both.add(e.get(k) + f.get(k));
            }
            product.add(both, c * d);
        }));
        return product;
    }

    Poly exchanged(int i) {
        Poly other = new Poly();
        numbers.forEach((e, c) -> {
            List<Integer> f = new ArrayList<>(e);
            f.set(i - 1, e.get(i));
            f.set(i, e.get(i - 1));
            other.add(f, c);
        });
        return other;
    }

    /** A long division by (xi less xi+1), the highest exponent of xi first. */
    Poly difference(int i) {
        Poly rest = plus(exchanged(i), -1);
        Poly quotient = new Poly();
        while (!rest.numbers.isEmpty()) {
            List<Integer> lead = null;
            for (List<Integer> e : rest.numbers.keySet()) {
                if (lead == null || e.get(i - 1) > lead.get(i - 1)) {
                    lead = e;
                }
            }
            long number = rest.at(lead);
            List<Integer> less = new ArrayList<>(lead);
            less.set(i - 1, lead.get(i - 1) - 1);
            List<Integer> moved = new ArrayList<>(less);
            moved.set(i, lead.get(i) + 1);
            quotient.add(less, number);
            rest.add(lead, -number);
            rest.add(moved, number);
        }
        return quotient;
    }

    long value(int... x) {
        long sum = 0;
        for (Map.Entry<List<Integer>, Long> entry : numbers.entrySet()) {
            long term = entry.getValue();
            for (int k = 0; k < 4; k++) {
                for (int n = 0; n < entry.getKey().get(k); n++) {
                    term *= x[k];
                }
            }
            sum += term;
        }
        return sum;
    }

    boolean isOver() {
        for (Map.Entry<List<Integer>, Long> entry : numbers.entrySet()) {
            if (Math.abs(entry.getValue()) > 1000000000L) {
                return true;
            }
            for (int i = 1; i <= 4; i++) {
                if (entry.getKey().get(i - 1) > 9 - i) {
                    return true;
                }
            }
        }
        return false;
    }

    int size() {
        return numbers.size();
    }
}
