import java.math.BigInteger;
import java.util.ArrayList;
import java.util.List;

/** The gears and dials of the document by fractions of BigInteger: slow, plain, and written apart from the desk. */
final class DeskModel {
    record Ratio(BigInteger top, BigInteger bottom) {
        static final Ratio ZERO = of(0, 1);
        static final Ratio ONE = of(1, 1);

        static Ratio of(BigInteger a, BigInteger b) {
            BigInteger g = a.gcd(b);
            if (b.signum() < 0) {
                g = g.negate();
            }
            return new Ratio(a.divide(g), b.divide(g));
        }

        static Ratio of(long a, long b) {
            return of(BigInteger.valueOf(a), BigInteger.valueOf(b));
        }

        Ratio plus(Ratio o) {
            return of(top.multiply(o.bottom).add(o.top.multiply(bottom)), bottom.multiply(o.bottom));
        }

        Ratio times(Ratio o) {
            return of(top.multiply(o.top), bottom.multiply(o.bottom));
        }

        Ratio negated() {
            return new Ratio(top.negate(), bottom);
        }

        Ratio turnedOver() {
            return of(bottom, top);
        }

        boolean isZero() {
            return top.signum() == 0;
        }

        BigInteger floor() {
            BigInteger[] q = top.divideAndRemainder(bottom);
            return q[1].signum() < 0 ? q[0].subtract(BigInteger.ONE) : q[0];
        }

        boolean isTooLarge() {
            return top.abs().bitLength() > 256 || bottom.bitLength() > 256;
        }
    }

    final List<Integer> teeth = new ArrayList<>();
    final List<int[]> relations = new ArrayList<>();
    final int[] dialGears = new int[12];
    final int[] dialDivisions = new int[12];
    Ratio[] speeds = new Ratio[60];
    Ratio result = Ratio.ZERO;
    int crank = -1;

    DeskModel() {
        java.util.Arrays.fill(dialGears, -1);
    }

    int gear(int t) {
        if (t < 4 || t > 1000) {
            throw new IllegalArgumentException();
        }
        if (teeth.size() >= 60) {
            throw new IllegalStateException();
        }
        teeth.add(t);
        return teeth.size() - 1;
    }

    int relate(int kind, int... gears) {
        for (int g : gears) {
            hasGear(g);
        }
        for (int i = 0; i < gears.length; i++) {
            for (int j = 0; j < i; j++) {
                if (gears[i] == gears[j]) {
                    throw new IllegalArgumentException();
                }
            }
        }
        if (kind == 1 && teeth.get(gears[1]) <= teeth.get(gears[0])) {
            throw new IllegalArgumentException();
        }
        if (relations.size() >= 120) {
            throw new IllegalStateException();
        }
        relations.add(new int[] {kind, gears[0], gears[1], gears.length > 2 ? gears[2] : -1});
        return relations.size() - 1;
    }

    int remove(int r) {
        if (r < 0 || r >= relations.size()) {
            throw new IndexOutOfBoundsException();
        }
        relations.remove(r);
        return relations.size();
    }

    int relation(int r, int what) {
        if (r < 0 || r >= relations.size() || what < 0 || what > 3) {
            throw new IndexOutOfBoundsException();
        }
        return relations.get(r)[what];
    }

    int crank(int g) {
        hasGear(g);
        int before = crank;
        crank = g;
        return before;
    }

    private void hasGear(int g) {
        if (g < 0 || g >= teeth.size()) {
            throw new IndexOutOfBoundsException();
        }
    }

    private Ratio[] equation(int[] relation) {
        Ratio[] row = new Ratio[teeth.size() + 1];
        java.util.Arrays.fill(row, Ratio.ZERO);
        int a = relation[1];
        int b = relation[2];
        Ratio ta = Ratio.of(teeth.get(a), 1);
        Ratio tb = Ratio.of(teeth.get(b), 1);
        switch (relation[0]) {
            case 0 -> {
                row[a] = ta;
                row[b] = tb;
            }
            case 1 -> {
                row[a] = ta;
                row[b] = tb.negated();
            }
            case 2 -> {
                row[a] = Ratio.ONE;
                row[b] = Ratio.ONE.negated();
            }
            default -> {
                row[a] = ta;
                row[b] = tb;
                row[relation[3]] = ta.plus(tb).negated();
            }
        }
        return row;
    }

    /** Rows stay reduced against each other; the last column is the right side. */
    int solve() {
        if (crank < 0) {
            throw new IllegalStateException();
        }
        int n = teeth.size();
        List<Ratio[]> rows = new ArrayList<>();
        List<Integer> leads = new ArrayList<>();
        Ratio[] first = new Ratio[n + 1];
        java.util.Arrays.fill(first, Ratio.ZERO);
        first[crank] = Ratio.ONE;
        first[n] = Ratio.ONE;
        rows.add(first);
        leads.add(crank);
        for (int[] relation : relations) {
            Ratio[] row = equation(relation);
            for (int i = 0; i < rows.size(); i++) {
                addTimes(row, rows.get(i), row[leads.get(i)].negated());
            }
            int lead = 0;
            while (lead < n && row[lead].isZero()) {
                lead++;
            }
            if (lead == n) {
                if (!row[n].isZero()) {
                    int low = Math.min(relation[1], relation[2]);
                    return relation[3] < 0 ? low : Math.min(low, relation[3]);
                }
                continue;
            }
            Ratio by = row[lead].turnedOver();
            for (int c = 0; c <= n; c++) {
                row[c] = row[c].times(by);
            }
            for (Ratio[] other : rows) {
                addTimes(other, row, other[lead].negated());
            }
            rows.add(row);
            leads.add(lead);
        }
        Ratio[] found = new Ratio[60];
        for (int i = 0; i < rows.size(); i++) {
            int others = 0;
            for (int c = 0; c < n; c++) {
                others += c != leads.get(i) && !rows.get(i)[c].isZero() ? 1 : 0;
            }
            if (others == 0) {
                found[leads.get(i)] = rows.get(i)[n];
                if (rows.get(i)[n].isTooLarge()) {
                    throw new UnsupportedOperationException();
                }
            }
        }
        speeds = found;
        return -1;
    }

    private static void addTimes(Ratio[] to, Ratio[] row, Ratio times) {
        if (times.isZero()) {
            return;
        }
        for (int c = 0; c < to.length; c++) {
            if (!row[c].isZero()) {
                to[c] = to[c].plus(row[c].times(times));
            }
        }
    }

    static int word(BigInteger number, int i) {
        return number.abs().shiftRight(32 * i).intValue();
    }

    int speed(int g, int part, int i) {
        hasGear(g);
        if (part < 0 || part > 2 || i < 0 || i > 7 || part == 0 && i != 0) {
            throw new IndexOutOfBoundsException();
        }
        if (speeds[g] == null) {
            throw new IllegalStateException();
        }
        return part == 0 ? speeds[g].top().signum() : word(part == 1 ? speeds[g].top() : speeds[g].bottom(), i);
    }

    int dial(int k, int g, int divisions) {
        if (k < 0 || k > 11) {
            throw new IndexOutOfBoundsException();
        }
        hasGear(g);
        if (divisions < 1 || divisions > 100000) {
            throw new IllegalArgumentException();
        }
        int before = dialGears[k];
        dialGears[k] = g;
        dialDivisions[k] = divisions;
        return before;
    }

    private void hasDial(int k) {
        if (k < 0 || k > 11 || dialGears[k] < 0) {
            throw new IndexOutOfBoundsException();
        }
    }

    private void keep(Ratio found) {
        if (found.isTooLarge()) {
            throw new UnsupportedOperationException();
        }
        result = found;
    }

    int position(int k, int num, int den) {
        hasDial(k);
        if (den < 1) {
            throw new IllegalArgumentException();
        }
        Ratio speed = speeds[dialGears[k]];
        if (speed == null) {
            throw new IllegalStateException();
        }
        Ratio turns = speed.times(Ratio.of(num, den));
        Ratio part = turns.plus(Ratio.of(turns.floor().negate(), BigInteger.ONE)).times(Ratio.of(dialDivisions[k], 1));
        keep(part.plus(Ratio.of(part.floor().negate(), BigInteger.ONE)));
        return part.floor().intValueExact();
    }

    boolean meet(int k, int l) {
        hasDial(k);
        hasDial(l);
        Ratio a = speeds[dialGears[k]];
        Ratio b = speeds[dialGears[l]];
        if (a == null || b == null || a.equals(b)) {
            return false;
        }
        Ratio turns = a.plus(b.negated()).turnedOver();
        keep(new Ratio(turns.top().abs(), turns.bottom()));
        return true;
    }

    boolean back() {
        BigInteger top = BigInteger.ONE;
        BigInteger bottom = BigInteger.ZERO;
        for (int g : dialGears) {
            if (g >= 0 && speeds[g] == null) {
                return false;
            }
            if (g >= 0 && !speeds[g].isZero()) {
                BigInteger b = speeds[g].bottom();
                top = top.multiply(b).divide(top.gcd(b));
                bottom = bottom.gcd(speeds[g].top());
            }
        }
        if (bottom.signum() == 0) {
            return false;
        }
        keep(Ratio.of(top, bottom));
        return true;
    }

    int result(int part, int i) {
        if (part < 0 || part > 1 || i < 0 || i > 7) {
            throw new IndexOutOfBoundsException();
        }
        return word(part == 0 ? result.top() : result.bottom(), i);
    }

    int clear() {
        int before = teeth.size();
        teeth.clear();
        relations.clear();
        crank = -1;
        java.util.Arrays.fill(dialGears, -1);
        speeds = new Ratio[60];
        return before;
    }

    int count(int what) {
        int sum = 0;
        switch (what) {
            case 0:
                return teeth.size();
            case 1:
                return relations.size();
            case 2:
                for (int g : dialGears) {
                    sum += g >= 0 ? 1 : 0;
                }
                return sum;
            case 3:
                for (Ratio s : speeds) {
                    sum += s != null ? 1 : 0;
                }
                return sum;
            case 4:
                return 0;
            default:
                return -1;
        }
    }
}
