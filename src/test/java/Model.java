import java.util.ArrayList;
import java.util.Arrays;
import java.util.List;
import java.util.NoSuchElementException;

/**
 * The document told a second time, by other means than the program's: plain lists, big fractions, the
 * dual simplex method with small weights that settle which of several is due, all lots tried, sums
 * needed found from the last date back.
 */
final class Model {
    /** coupon, face, end, price, most, called, held. */
    private List<int[]> bonds = new ArrayList<>();
    private int[] paid = new int[1];
    private int[] rates = new int[1];
    private byte[] tape = new byte[0];
    private int cash = 0;
    private int fault = 0;
    private Frac[] bestValues;
    private Frac bestCost;
    private Frac[] multipliers;
    private Frac[] without;
    private int[] lot;
    private long lotCost;
    private long lotFirst;
    private long lotScale;

    private static boolean in(int v, int low, int high) {
        return v >= low && v <= high;
    }

    private boolean isDate(int d) {
        return in(d, 1, paid.length);
    }

    private boolean isBond(int b) {
        return in(b, 0, bonds.size() - 1);
    }

    private void changed() {
        bestValues = null;
        lot = null;
    }

    // ---- what is told

    boolean dates(int t) {
        if (!in(t, 1, 4)) {
            return false;
        }
        paid = new int[t];
        rates = new int[t];
        bonds = new ArrayList<>();
        changed();
        return true;
    }

    boolean pay(int date, int v) {
        if (!isDate(date) || !in(v, 0, 200)) {
            return false;
        }
        paid[date - 1] = v;
        changed();
        return true;
    }

    boolean rate(int date, int k) {
        if (!isDate(date) || !in(k, 0, 6)) {
            return false;
        }
        rates[date - 1] = k;
        changed();
        return true;
    }

    int bond(int coupon, int face, int end, int price) {
        if (!in(coupon, 0, 20) || !in(face, 1, 40) || !isDate(end) || !in(price, 1, 200)) {
            return -1;
        }
        if (bonds.size() == 5) {
            return -2;
        }
        bonds.add(new int[] {coupon, face, end, price, 10, 0, 0});
        changed();
        return bonds.size() - 1;
    }

    boolean most(int bond, int v) {
        if (!isBond(bond) || !in(v, 0, 12)) {
            return false;
        }
        bonds.get(bond)[4] = v;
        changed();
        return true;
    }

    boolean call(int bond, int date) {
        if (!isBond(bond) || !in(date, 0, bonds.get(bond)[2] - 1) || bonds.get(bond)[5] == date) {
            return false;
        }
        bonds.get(bond)[5] = date;
        changed();
        return true;
    }

    int drop(int bond) {
        if (!isBond(bond)) {
            return -1;
        }
        bonds.remove(bond);
        changed();
        return bonds.size();
    }

    int feed(int a, int b, int c, int d, int e) {
        if (tape.length > 280) {
            return -1;
        }
        int n = tape.length;
        tape = Arrays.copyOf(tape, n + 20);
        java.nio.ByteBuffer.wrap(tape, n, 20).putInt(a).putInt(b).putInt(c).putInt(d).putInt(e);
        return tape.length;
    }

    boolean end(int n) {
        if (!in(n, 0, tape.length)) {
            return false;
        }
        tape = Arrays.copyOf(tape, n);
        return true;
    }

    int tell() {
        String text = new String(tape, java.nio.charset.StandardCharsets.ISO_8859_1);
        tape = new byte[0];
        List<int[]> keptBonds = new ArrayList<>();
        for (int[] b : bonds) {
            keptBonds.add(b.clone());
        }
        int[] keptPaid = paid.clone();
        int[] keptRates = rates.clone();
        Reading reading = new Reading(text);
        fault = reading.tellAll();
        if (fault != 0) {
            bonds = keptBonds;
            paid = keptPaid;
            rates = keptRates;
        }
        changed();
        return fault != 0 ? -1 : reading.statements;
    }

    /** Tokens by a pattern first, then statements token by token. */
    private final class Reading {
        final List<String> tokens = new ArrayList<>();
        final List<Integer> places = new ArrayList<>();
        int statements = 0;
        int next = 0;

        Reading(String text) {
            java.util.regex.Matcher m = java.util.regex.Pattern
                .compile("[a-z]+|[0-9]+|[ \\n]+|.", java.util.regex.Pattern.DOTALL).matcher(text);
            while (m.find()) {
                if (!m.group().matches("[ \\n]+")) {
                    tokens.add(m.group());
                    places.add(m.start());
                }
            }
            tokens.add("");
            places.add(text.length());
        }

        int tellAll() {
            while (!tokens.get(next).isEmpty()) {
                String word = tokens.get(next);
                if (!List.of("dates", "pay", "rate", "bond", "most").contains(word)) {
                    return wrong(1);
                }
                if (word.equals("bond") && bonds.size() == 5) {
                    return wrong(3);
                }
                next++;
                int kind = tellOne(word);
                if (kind != 0) {
                    return wrong(kind);
                }
                statements++;
            }
            return 0;
        }

        private int wrong(int kind) {
            return kind + 8 * places.get(next);
        }

        private int tellOne(String word) {
            int T = paid.length;
            int B = bonds.size() - 1;
            int[][] ranges = word.equals("dates") ? new int[][] {{1, 4}}
                : word.equals("pay") ? new int[][] {{1, T}, {0, 200}}
                : word.equals("rate") ? new int[][] {{1, T}, {0, 6}}
                : word.equals("bond") ? new int[][] {{0, 20}, {1, 40}, {1, T}, {1, 200}}
                : new int[][] {{0, B}, {0, 12}};
            int[] n = new int[4];
            for (int i = 0; i < ranges.length; i++) {
                if (!tokens.get(next).matches("[0-9]{1,4}")) {
                    return 1;
                }
                n[i] = Integer.parseInt(tokens.get(next));
                if (!in(n[i], ranges[i][0], ranges[i][1])) {
                    return 2;
                }
                next++;
            }
            if (!tokens.get(next).equals(";")) {
                return 1;
            }
            next++;
            switch (word) {
                case "dates" -> dates(n[0]);
                case "pay" -> pay(n[0], n[1]);
                case "rate" -> rate(n[0], n[1]);
                case "bond" -> bond(n[0], n[1], n[2], n[3]);
                default -> most(n[0], n[1]);
            }
            return 0;
        }
    }

    int fault() {
        return fault;
    }

    int count(int what) {
        return what == 0 ? paid.length : what == 1 ? bonds.size() : what == 2 ? tape.length : what == 3 ? cash : -1;
    }

    int date(int date, int what) {
        if (!isDate(date)) {
            return -1;
        }
        return what == 0 ? paid[date - 1] : what == 1 ? rates[date - 1] : -1;
    }

    int told(int bond, int what) {
        if (!isBond(bond)) {
            throw new NoSuchElementException();
        }
        if (in(what, 0, 6)) {
            return bonds.get(bond)[what];
        }
        if (in(what, 11, 10 + paid.length)) {
            return yields(bonds.get(bond))[what - 11];
        }
        throw new NoSuchElementException();
    }

    private int[] yields(int[] bond) {
        int[] y = new int[paid.length];
        int last = bond[5] == 0 ? bond[2] : bond[5];
        for (int i = 0; i < last; i++) {
            y[i] = bond[0];
        }
        y[last - 1] += bond[1];
        return y;
    }

    private Frac growth(int date) {
        return Frac.of(20 + rates[date - 1], 20);
    }

    // ---- the best cover

    /**
     * The balances as rows of equations, solved by the dual simplex method from the basis s 1 to s T
     * (the prices are not below 0, so it may start there). Small weights on prices or on what is paid
     * make the basis that is due the only one; the answer is then read with the plain numbers.
     */
    private final class Simplex {
        final int T = paid.length;
        final int B = bonds.size();
        final Frac[][] rows = new Frac[T][B + T + 1];
        final Frac[] right = new Frac[T];
        final Frac[] plainRight = new Frac[T];
        final Frac[] costs = new Frac[B + T + 1];
        final Frac[] plainCosts = new Frac[B + T + 1];
        final int[] basis = new int[T];

        Simplex(int leftOut, boolean weighPrices) {
            Frac tiny = Frac.ONE.by(Frac.of(1_000_000_000_000_000L)).by(Frac.of(1_000_000_000_000_000L));
            tiny = tiny.times(tiny);
            Frac weight = tiny;
            for (int b = 0; b < B; b++) {
                plainCosts[b] = Frac.of(bonds.get(b)[3]);
                costs[b] = b == leftOut ? Frac.of(1_000_000_000L) : plainCosts[b];
                if (weighPrices) {
                    costs[b] = costs[b].plus(weight);
                    weight = weight.times(tiny);
                }
            }
            for (int s = 0; s <= T; s++) {
                plainCosts[B + s] = Frac.of(s == 0 ? 1 : 0);
                costs[B + s] = plainCosts[B + s];
            }
            weight = tiny;
            for (int t = 1; t <= T; t++) {
                fillRow(t, leftOut);
                plainRight[t - 1] = Frac.of(-paid[t - 1]);
                right[t - 1] = plainRight[t - 1];
                if (!weighPrices) {
                    right[t - 1] = right[t - 1].plus(weight);
                    weight = weight.times(tiny);
                }
            }
        }

        private void fillRow(int t, int leftOut) {
            Frac[] row = rows[t - 1];
            Arrays.fill(row, Frac.ZERO);
            for (int b = 0; b < B; b++) {
                row[b] = b == leftOut ? Frac.ZERO : Frac.of(-yields(bonds.get(b))[t - 1]);
            }
            row[B + t] = Frac.ONE;
            row[B + t - 1] = Frac.ZERO.minus(growth(t));
            basis[t - 1] = B + t;
        }

        void solve() {
            // The columns s 1 to s T are not yet a unit matrix: s t - 1 stands in row t too.
            for (int i = 0; i < T; i++) {
                pivot(i, basis[i]);
            }
            for (int step = 0; step < 10000; step++) {
                int leaving = -1;
                for (int i = 0; i < T; i++) {
                    if (right[i].sign() < 0 && (leaving < 0 || basis[i] < basis[leaving])) {
                        leaving = i;
                    }
                }
                if (leaving < 0) {
                    return;
                }
                int entering = -1;
                Frac least = null;
                for (int j = 0; j < rows[0].length; j++) {
                    if (rows[leaving][j].sign() < 0) {
                        Frac ratio = costs[j].by(Frac.ZERO.minus(rows[leaving][j]));
                        if (least == null || ratio.compareTo(least) < 0) {
                            least = ratio;
                            entering = j;
                        }
                    }
                }
                pivot(leaving, entering);
            }
            throw new IllegalStateException("the model goes round");
        }

        private void pivot(int i, int j) {
            Frac p = rows[i][j];
            for (int k = 0; k < rows[i].length; k++) {
                rows[i][k] = rows[i][k].by(p);
            }
            right[i] = right[i].by(p);
            plainRight[i] = plainRight[i].by(p);
            for (int r = 0; r < T; r++) {
                Frac f = rows[r][j];
                if (r != i && f.sign() != 0) {
                    for (int k = 0; k < rows[r].length; k++) {
                        rows[r][k] = rows[r][k].minus(f.times(rows[i][k]));
                    }
                    right[r] = right[r].minus(f.times(right[i]));
                    plainRight[r] = plainRight[r].minus(f.times(plainRight[i]));
                }
            }
            Frac c = costs[j];
            Frac plain = plainCosts[j];
            for (int k = 0; k < costs.length; k++) {
                costs[k] = costs[k].minus(c.times(rows[i][k]));
                plainCosts[k] = plainCosts[k].minus(plain.times(rows[i][k]));
            }
            basis[i] = j;
        }

        Frac[] values() {
            Frac[] v = new Frac[B + T + 1];
            Arrays.fill(v, Frac.ZERO);
            for (int i = 0; i < T; i++) {
                v[basis[i]] = plainRight[i];
            }
            return v;
        }

        /** What s t costs too much is y t less y t + 1 carried: so y comes from the last date back. */
        Frac[] multipliers() {
            Frac[] y = new Frac[T + 1];
            for (int t = T; t >= 1; t--) {
                y[t] = plainCosts[B + t];
                if (t < T) {
                    y[t] = y[t].plus(growth(t + 1).times(y[t + 1]));
                }
            }
            return y;
        }
    }

    private Frac costOf(Frac[] values) {
        Frac cost = values[bonds.size()];
        for (int b = 0; b < bonds.size(); b++) {
            cost = cost.plus(values[b].times(Frac.of(bonds.get(b)[3])));
        }
        return cost;
    }

    private void solveBest() {
        if (bestValues != null) {
            return;
        }
        Simplex s = new Simplex(-1, true);
        s.solve();
        bestValues = s.values();
        bestCost = costOf(bestValues);
        s = new Simplex(-1, false);
        s.solve();
        multipliers = s.multipliers();
        without = new Frac[bonds.size()];
        for (int b = 0; b < bonds.size(); b++) {
            s = new Simplex(b, true);
            s.solve();
            without[b] = costOf(s.values());
        }
        checkProof();
    }

    /** The model's own numbers against the document's words: a cover, and multipliers that prove it best. */
    private void checkProof() {
        int B = bonds.size();
        int T = paid.length;
        Frac worth = Frac.ZERO;
        for (int t = 1; t <= T; t++) {
            worth = worth.plus(multipliers[t].times(Frac.of(paid[t - 1])));
            Frac next = t < T ? growth(t + 1).times(multipliers[t + 1]) : Frac.ZERO;
            must(multipliers[t].compareTo(next) >= 0);
            Frac s = bestValues[B + t - 1].times(growth(t)).minus(Frac.of(paid[t - 1]));
            for (int b = 0; b < B; b++) {
                s = s.plus(bestValues[b].times(Frac.of(yields(bonds.get(b))[t - 1])));
            }
            must(s.compareTo(bestValues[B + t]) == 0);
        }
        for (Frac v : bestValues) {
            must(v.sign() >= 0);
        }
        for (int b = 0; b < B; b++) {
            must(dearness(b).sign() >= 0);
        }
        must(growth(1).times(multipliers[1]).compareTo(Frac.ONE) <= 0);
        must(worth.compareTo(bestCost) == 0);
    }

    private static void must(boolean holds) {
        if (!holds) {
            throw new IllegalStateException("the model is wrong");
        }
    }

    private Frac dearness(int b) {
        Frac d = Frac.of(bonds.get(b)[3]);
        for (int t = 1; t <= paid.length; t++) {
            d = d.minus(multipliers[t].times(Frac.of(yields(bonds.get(b))[t - 1])));
        }
        return d;
    }

    long cost(boolean under) {
        solveBest();
        return bestCost.told(under);
    }

    long part(int bond, boolean under) {
        solveBest();
        return isBond(bond) ? bestValues[bond].told(under) : -1;
    }

    long surplus(int t, boolean under) {
        solveBest();
        return in(t, 0, paid.length) ? bestValues[bonds.size() + t].told(under) : -1;
    }

    long multiplier(int date, boolean under) {
        solveBest();
        return isDate(date) ? multipliers[date].told(under) : -1;
    }

    long dear(int bond, boolean under) {
        solveBest();
        return isBond(bond) ? dearness(bond).told(under) : -1;
    }

    long without(int bond, boolean under) {
        solveBest();
        return isBond(bond) ? without[bond].told(under) : -1;
    }

    // ---- in lots

    /** Every lot is tried; what is needed ahead of a date comes from the last date back. */
    private void solveLots() {
        if (lot != null) {
            return;
        }
        int B = bonds.size();
        int T = paid.length;
        int[][] y = new int[B][];
        for (int b = 0; b < B; b++) {
            y[b] = yields(bonds.get(b));
        }
        lotScale = 1;
        for (int t = 1; t <= T; t++) {
            lotScale *= 20 + rates[t - 1];
        }
        int[] x = new int[B];
        lot = x.clone();
        lotCost = Long.MAX_VALUE;
        while (true) {
            long need = 0;
            long scale = 1;
            for (int t = T; t >= 1; t--) {
                long net = paid[t - 1];
                for (int b = 0; b < B; b++) {
                    net -= (long) x[b] * y[b][t - 1];
                }
                need = Math.max(0, need + scale * net) * 20;
                scale *= 20 + rates[t - 1];
            }
            long cost = need;
            for (int b = 0; b < B; b++) {
                cost += scale * x[b] * bonds.get(b)[3];
            }
            if (cost < lotCost) {
                lotCost = cost;
                lotFirst = need;
                lot = x.clone();
            }
            int b = B - 1;
            while (b >= 0 && x[b] == bonds.get(b)[4]) {
                x[b] = 0;
                b--;
            }
            if (b < 0) {
                return;
            }
            x[b]++;
        }
    }

    int lots(int bond) {
        solveLots();
        return isBond(bond) ? lot[bond] : -1;
    }

    long lotsCost(int what, boolean under) {
        solveLots();
        return in(what, 0, 1) ? Frac.of(what == 0 ? lotCost : lotFirst, lotScale).told(under) : -1;
    }

    // ---- what is held

    boolean hold(int bond, int n) {
        if (!isBond(bond) || !in(n, 0, 99)) {
            return false;
        }
        bonds.get(bond)[6] = n;
        return true;
    }

    boolean cash(int c) {
        if (!in(c, 0, 9999)) {
            return false;
        }
        cash = c;
        return true;
    }

    int take() {
        solveLots();
        for (int b = 0; b < bonds.size(); b++) {
            bonds.get(b)[6] = lot[b];
        }
        cash = 0;
        while (cash * lotScale < lotFirst) {
            cash++;
        }
        return cash;
    }

    private int net(int date) {
        int n = -paid[date - 1];
        for (int[] b : bonds) {
            n += b[6] * yields(b)[date - 1];
        }
        return n;
    }

    private Frac sumAt(int t) {
        Frac s = Frac.of(cash);
        for (int d = 1; d <= t; d++) {
            s = s.times(growth(d)).plus(Frac.of(net(d)));
        }
        return s;
    }

    int fails() {
        for (int t = 1; t <= paid.length; t++) {
            if (sumAt(t).sign() < 0) {
                return t;
            }
        }
        return 0;
    }

    long balance(int t, boolean under) {
        if (!in(t, 0, paid.length) || fails() != 0 && fails() <= t) {
            return -1;
        }
        return sumAt(t).told(under);
    }

    /** The least that there may be behind a date, so that it goes well from there. */
    private Frac neededBehind(int date) {
        Frac n = Frac.ZERO;
        for (int t = paid.length; t > date; t--) {
            n = n.minus(Frac.of(net(t))).by(growth(t)).orZero();
        }
        return n;
    }

    long need(boolean under) {
        return neededBehind(0).told(under);
    }

    long lack(int date, boolean under) {
        if (!in(date, 0, paid.length) || fails() != 0 && fails() < date) {
            return -1;
        }
        return neededBehind(date).minus(sumAt(date)).orZero().told(under);
    }
}
