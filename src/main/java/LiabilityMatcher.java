import java.util.NoSuchElementException;

/**
 * Bonds that are to cover payments: the cheapest cover by parts and by whole lots, and a holding by
 * hand. The words in the names are those of the document (DATES, PAID, RATE, BONDS, YIELDS, COVER).
 */
public final class LiabilityMatcher {
    public static final int NONE = -1;

    private static final int NO_ROOM = -2;
    private static final int MOST_DATES = 4;
    private static final int MOST_BONDS = 5;
    private static final int MOST_COLUMNS = MOST_BONDS + MOST_DATES + 1;
    private static final int MOST_BYTES = 300;

    /** Rates count twentieths: what is carried becomes (WHOLE + rate) / WHOLE times as much. */
    private static final int WHOLE = 20;

    /** What a number can stand for; LEAST and GREATEST have a place for each. */
    private static final int DATE_COUNT = 0;
    private static final int DATE = 1;
    private static final int PAID = 2;
    private static final int RATE = 3;
    private static final int BOND = 4;
    private static final int COUPON = 5;
    private static final int FACE = 6;
    private static final int PRICE = 7;
    private static final int MOST = 8;
    private static final int HELD = 9;
    private static final int SUM = 10;
    private static final int[] LEAST = {1, 1, 0, 0, 0, 0, 1, 1, 0, 0, 0};

    /** The greatest DATE and BOND hang on the plan; what stands here for them is never asked. */
    private static final int[] GREATEST = {MOST_DATES, 0, 200, 6, 0, 20, 40, 200, 12, 99, 9999};

    /** Where a bond's terms stand: the same numbers by which told() asks for them. */
    private static final int COUPON_TERM = 0;
    private static final int FACE_TERM = 1;
    private static final int END_TERM = 2;
    private static final int PRICE_TERM = 3;
    private static final int MOST_TERM = 4;
    private static final int CALLED_TERM = 5;
    private static final int HELD_TERM = 6;
    private static final int TERMS = 7;
    private static final int YIELD_TERM = 10;
    private static final int MOST_AT_FIRST = 10;

    private final Text text = new Text();
    private final BestCover best = new BestCover();
    private final LotCover lotCover = new LotCover();
    private final HeldRun run = new HeldRun();
    private Plan plan = new Plan();
    private Plan draft = new Plan();
    private int sum = 0;
    private int latestFault = 0;
    private boolean bestKnown = false;
    private boolean lotsKnown = false;

    public LiabilityMatcher() {
    }

    // ---- what is told

    public boolean dates(int t) {
        if (!plan.fits(DATE_COUNT, t)) {
            return false;
        }
        plan.begin(t);
        forgetAnswers();
        return true;
    }

    public boolean pay(int date, int v) {
        if (!plan.fits(DATE, date) || !plan.fits(PAID, v)) {
            return false;
        }
        plan.setPaid(date, v);
        forgetAnswers();
        return true;
    }

    public boolean rate(int date, int k) {
        if (!plan.fits(DATE, date) || !plan.fits(RATE, k)) {
            return false;
        }
        plan.setRate(date, k);
        forgetAnswers();
        return true;
    }

    public int bond(int coupon, int face, int end, int price) {
        if (!plan.fits(COUPON, coupon) || !plan.fits(FACE, face)
                || !plan.fits(DATE, end) || !plan.fits(PRICE, price)) {
            return NONE;
        }
        if (plan.isFull()) {
            return NO_ROOM;
        }
        plan.addBond(coupon, face, end, price);
        forgetAnswers();
        return plan.bonds - 1;
    }

    public boolean most(int bond, int v) {
        if (!plan.fits(BOND, bond) || !plan.fits(MOST, v)) {
            return false;
        }
        plan.setTerm(bond, MOST_TERM, v);
        forgetAnswers();
        return true;
    }

    public boolean call(int bond, int date) {
        if (!plan.fits(BOND, bond) || date < 0 || date >= plan.term(bond, END_TERM)
                || date == plan.term(bond, CALLED_TERM)) {
            return false;
        }
        plan.setTerm(bond, CALLED_TERM, date);
        forgetAnswers();
        return true;
    }

    public int drop(int bond) {
        if (!plan.fits(BOND, bond)) {
            return NONE;
        }
        plan.removeBond(bond);
        forgetAnswers();
        return plan.bonds;
    }

    public int feed(int a, int b, int c, int d, int e) {
        if (!text.hasRoom(20)) {
            return NONE;
        }
        text.addBytes(a);
        text.addBytes(b);
        text.addBytes(c);
        text.addBytes(d);
        text.addBytes(e);
        return text.size;
    }

    public boolean end(int n) {
        if (n < 0 || n > text.size) {
            return false;
        }
        text.size = n;
        return true;
    }

    public int tell() {
        // A faulty text must leave all as it was, so it is told to a copy first.
        draft.copyFrom(plan);
        int statements = text.tellTo(draft);
        latestFault = text.foundFault;
        text.size = 0;
        if (statements != NONE) {
            Plan before = plan;
            plan = draft;
            draft = before;
            forgetAnswers();
        }
        return statements;
    }

    public int fault() {
        return latestFault;
    }

    public int count(int what) {
        switch (what) {
            case 0:
                return plan.dates;
            case 1:
                return plan.bonds;
            case 2:
                return text.size;
            case 3:
                return sum;
            default:
                return NONE;
        }
    }

    public int date(int date, int what) {
        if (!plan.fits(DATE, date)) {
            return NONE;
        }
        if (what == 0) {
            return plan.paidAt(date);
        }
        return what == 1 ? plan.rateAt(date) : NONE;
    }

    public int told(int bond, int what) throws NoSuchElementException {
        if (!plan.fits(BOND, bond)) {
            throw new NoSuchElementException("no such bond");
        }
        if (what >= 0 && what < TERMS) {
            return plan.term(bond, what);
        }
        if (what <= YIELD_TERM || what > YIELD_TERM + plan.dates) {
            throw new NoSuchElementException("nothing such of a bond");
        }
        return plan.yieldAt(bond, what - YIELD_TERM);
    }

    // ---- the best cover

    public long cost(boolean under) {
        findBest();
        return inLeastTerms(best.cover.price, best.cover.below, under);
    }

    public long part(int bond, boolean under) {
        if (!plan.fits(BOND, bond)) {
            return NONE;
        }
        findBest();
        return inLeastTerms(best.cover.values[bond], best.cover.below, under);
    }

    public long surplus(int t, boolean under) {
        if (t != 0 && !plan.fits(DATE, t)) {
            return NONE;
        }
        findBest();
        return inLeastTerms(WHOLE * best.cover.values[plan.bonds + t], best.cover.below, under);
    }

    public long multiplier(int date, boolean under) {
        if (!plan.fits(DATE, date)) {
            return NONE;
        }
        findBest();
        return inLeastTerms(best.proof.values[date], best.proof.below, under);
    }

    public long dear(int bond, boolean under) {
        if (!plan.fits(BOND, bond)) {
            return NONE;
        }
        findBest();
        return inLeastTerms(best.excessOf(bond), best.proof.below, under);
    }

    public long without(int bond, boolean under) {
        if (!plan.fits(BOND, bond)) {
            return NONE;
        }
        findBest();
        return inLeastTerms(best.priceWithout[bond], best.belowWithout[bond], under);
    }

    // ---- in lots

    public int lots(int bond) {
        if (!plan.fits(BOND, bond)) {
            return NONE;
        }
        findLots();
        return lotCover.chosen[bond];
    }

    public long lotsCost(int what, boolean under) {
        if (what != 0 && what != 1) {
            return NONE;
        }
        findLots();
        return inLeastTerms(what == 0 ? lotCover.cheapest : lotCover.atFirst, lotCover.scale, under);
    }

    // ---- what is held

    public boolean hold(int bond, int n) {
        if (!plan.fits(BOND, bond) || !plan.fits(HELD, n)) {
            return false;
        }
        plan.setTerm(bond, HELD_TERM, n);
        return true;
    }

    public boolean cash(int c) {
        if (!plan.fits(SUM, c)) {
            return false;
        }
        sum = c;
        return true;
    }

    public int take() {
        findLots();
        for (int bond = 0; bond < plan.bonds; bond++) {
            plan.setTerm(bond, HELD_TERM, lotCover.chosen[bond]);
        }
        sum = lotCover.atFirstRoundedUp();
        return sum;
    }

    public int fails() {
        run.follow(plan, sum);
        return run.failsAt;
    }

    public long balance(int t, boolean under) {
        if (t != 0 && !plan.fits(DATE, t)) {
            return NONE;
        }
        run.follow(plan, sum);
        if (run.failsAt != 0 && run.failsAt <= t) {
            return NONE;
        }
        return inLeastTerms(run.upper[t], run.lower[t], under);
    }

    public long need(boolean under) {
        run.follow(plan, 0);
        run.findLack(plan, 0);
        return inLeastTerms(run.lackUpper, run.lackLower, under);
    }

    public long lack(int date, boolean under) {
        if (date != 0 && !plan.fits(DATE, date)) {
            return NONE;
        }
        run.follow(plan, sum);
        if (run.failsAt != 0 && run.failsAt < date) {
            return NONE;
        }
        run.findLack(plan, date);
        return inLeastTerms(run.lackUpper, run.lackLower, under);
    }

    private void forgetAnswers() {
        bestKnown = false;
        lotsKnown = false;
    }

    private void findBest() {
        if (!bestKnown) {
            best.findFor(plan);
            bestKnown = true;
        }
    }

    private void findLots() {
        if (!lotsKnown) {
            lotCover.findFor(plan);
            lotsKnown = true;
        }
    }

    private static long inLeastTerms(long upper, long lower, boolean under) {
        long divisor = commonDivisor(upper, lower);
        if (divisor == 0) {
            return 0;
        }
        return (under ? lower : upper) / divisor;
    }

    private static long commonDivisor(long a, long b) {
        long high = a;
        long low = b;
        // Euclid's steps on two longs are fewer than 100.
        for (int step = 0; step < 100 && low != 0; step++) {
            long rest = high % low;
            high = low;
            low = rest;
        }
        return high;
    }

    /** What is told: the dates, what is paid and carried there, the bonds (and how many are held). */
    private static final class Plan {
        int dates = 1;
        int bonds = 0;
        /** By date; place 0 is not used. */
        private final int[] paid = new int[MOST_DATES + 1];
        private final int[] rates = new int[MOST_DATES + 1];
        private final int[] terms = new int[MOST_BONDS * TERMS];

        void begin(int t) {
            dates = t;
            bonds = 0;
            for (int date = 0; date < paid.length; date++) {
                paid[date] = 0;
                rates[date] = 0;
            }
        }

        void copyFrom(Plan other) {
            dates = other.dates;
            bonds = other.bonds;
            System.arraycopy(other.paid, 0, paid, 0, MOST_DATES + 1);
            System.arraycopy(other.rates, 0, rates, 0, MOST_DATES + 1);
            System.arraycopy(other.terms, 0, terms, 0, MOST_BONDS * TERMS);
        }

        boolean fits(int role, int v) {
            if (role < 0 || role >= LEAST.length || role >= GREATEST.length) {
                return false;
            }
            return v >= LEAST[role] && v <= greatest(role);
        }

        private boolean isDate(int date) {
            return date >= 1 && date <= dates && date <= MOST_DATES;
        }

        private int greatest(int role) {
            if (role == DATE) {
                return dates;
            }
            if (role == BOND) {
                return bonds - 1;
            }
            return role < 0 || role >= GREATEST.length ? NONE : GREATEST[role];
        }

        boolean isFull() {
            return bonds >= MOST_BONDS;
        }

        void addBond(int coupon, int face, int last, int price) {
            if (isFull()) {
                return;
            }
            bonds++;
            setTerm(bonds - 1, COUPON_TERM, coupon);
            setTerm(bonds - 1, FACE_TERM, face);
            setTerm(bonds - 1, END_TERM, last);
            setTerm(bonds - 1, PRICE_TERM, price);
            setTerm(bonds - 1, MOST_TERM, MOST_AT_FIRST);
            setTerm(bonds - 1, CALLED_TERM, 0);
            setTerm(bonds - 1, HELD_TERM, 0);
        }

        void removeBond(int bond) {
            if (!fits(BOND, bond)) {
                return;
            }
            for (int i = bond * TERMS; i + TERMS < terms.length; i++) {
                terms[i] = terms[i + TERMS];
            }
            bonds--;
        }

        int term(int bond, int what) {
            return isTerm(bond, what) ? terms[bond * TERMS + what] : 0;
        }

        void setTerm(int bond, int what, int v) {
            if (isTerm(bond, what)) {
                terms[bond * TERMS + what] = v;
            }
        }

        private boolean isTerm(int bond, int what) {
            return bond >= 0 && bond < bonds && bond < MOST_BONDS && what >= 0 && what < TERMS;
        }

        int yieldAt(int bond, int date) {
            int called = term(bond, CALLED_TERM);
            int last = called > 0 ? called : term(bond, END_TERM);
            if (date < 1 || date > last) {
                return 0;
            }
            return term(bond, COUPON_TERM) + (date == last ? term(bond, FACE_TERM) : 0);
        }

        int paidAt(int date) {
            return isDate(date) ? paid[date] : 0;
        }

        void setPaid(int date, int v) {
            if (isDate(date)) {
                paid[date] = v;
            }
        }

        int rateAt(int date) {
            return isDate(date) ? rates[date] : 0;
        }

        void setRate(int date, int k) {
            if (isDate(date)) {
                rates[date] = k;
            }
        }

        /** What the sum behind the date ahead is multiplied by, in twentieths. */
        int growth(int date) {
            return WHOLE + rateAt(date);
        }
    }

    /** The tape, and the reading of it as statements. */
    private static final class Text {
        private static final int END_TOKEN = 0;
        private static final int WORD_TOKEN = 1;
        private static final int NUMBER_TOKEN = 2;
        private static final int OTHER_TOKEN = 3;

        private static final int WRONG_TOKEN = 1;
        private static final int WRONG_NUMBER = 2;
        private static final int SIXTH_BOND = 3;

        private static final int DATES_STATEMENT = 0;
        private static final int PAY_STATEMENT = 1;
        private static final int RATE_STATEMENT = 2;
        private static final int BOND_STATEMENT = 3;
        private static final int MOST_STATEMENT = 4;
        private static final int STATEMENTS = 5;
        private static final int MOST_NUMBERS = 4;

        /** By statement: how many numbers it has, and what each stands for (four places a statement). */
        private static final int[] NUMBERS = {1, 2, 2, 4, 2};
        private static final int[] ROLES = {
            DATE_COUNT, NONE, NONE, NONE,
            DATE, PAID, NONE, NONE,
            DATE, RATE, NONE, NONE,
            COUPON, FACE, DATE, PRICE,
            BOND, MOST, NONE, NONE};

        int size = 0;
        int foundFault = 0;
        private final byte[] bytes = new byte[MOST_BYTES];
        private final int[] numbers = new int[MOST_NUMBERS];
        private int token = END_TOKEN;
        private int tokenAt = 0;
        private int behindToken = 0;

        boolean hasRoom(int n) {
            return size + n <= MOST_BYTES;
        }

        void addBytes(int four) {
            for (int shift = 24; shift >= 0 && hasRoom(1); shift -= 8) {
                bytes[size] = (byte) (four >>> shift);
                size++;
            }
        }

        /** How many statements were told; NONE, and foundFault says which, if one is faulty. */
        int tellTo(Plan plan) {
            foundFault = 0;
            behindToken = 0;
            int statements = 0;
            readToken();
            // Each statement takes two bytes at least, so there are fewer than there are bytes.
            while (token != END_TOKEN && statements <= MOST_BYTES) {
                if (!tellStatement(plan)) {
                    return NONE;
                }
                statements++;
                readToken();
            }
            return statements;
        }

        private boolean tellStatement(Plan plan) {
            int statement = statementOfToken();
            if (statement == NONE) {
                return refuse(WRONG_TOKEN);
            }
            if (statement == BOND_STATEMENT && plan.isFull()) {
                return refuse(SIXTH_BOND);
            }
            if (!readNumbers(plan, statement)) {
                return false;
            }
            readToken();
            if (byteAt(tokenAt) != ';') {
                return refuse(WRONG_TOKEN);
            }
            carryOut(plan, statement);
            return true;
        }

        private boolean readNumbers(Plan plan, int statement) {
            for (int i = 0; i < NUMBERS[statement] && i < MOST_NUMBERS; i++) {
                readToken();
                if (token != NUMBER_TOKEN) {
                    return refuse(WRONG_TOKEN);
                }
                int number = numberOfToken();
                if (!plan.fits(ROLES[statement * MOST_NUMBERS + i], number)) {
                    return refuse(WRONG_NUMBER);
                }
                numbers[i] = number;
            }
            return true;
        }

        private void carryOut(Plan plan, int statement) {
            switch (statement) {
                case DATES_STATEMENT:
                    plan.begin(numbers[0]);
                    break;
                case PAY_STATEMENT:
                    plan.setPaid(numbers[0], numbers[1]);
                    break;
                case RATE_STATEMENT:
                    plan.setRate(numbers[0], numbers[1]);
                    break;
                case BOND_STATEMENT:
                    plan.addBond(numbers[0], numbers[1], numbers[2], numbers[3]);
                    break;
                default:
                    plan.setTerm(numbers[0], MOST_TERM, numbers[1]);
                    break;
            }
        }

        private boolean refuse(int kind) {
            foundFault = kind + 8 * tokenAt;
            return false;
        }

        private int statementOfToken() {
            if (token != WORD_TOKEN) {
                return NONE;
            }
            for (int statement = 0; statement < STATEMENTS; statement++) {
                if (tokenIs(wordOf(statement))) {
                    return statement;
                }
            }
            return NONE;
        }

        private static String wordOf(int statement) {
            switch (statement) {
                case DATES_STATEMENT:
                    return "dates";
                case PAY_STATEMENT:
                    return "pay";
                case RATE_STATEMENT:
                    return "rate";
                case BOND_STATEMENT:
                    return "bond";
                default:
                    return "most";
            }
        }

        private boolean tokenIs(String word) {
            if (behindToken - tokenAt != word.length()) {
                return false;
            }
            for (int i = 0; i < word.length(); i++) {
                if (byteAt(tokenAt + i) != word.charAt(i)) {
                    return false;
                }
            }
            return true;
        }

        private int numberOfToken() {
            int number = 0;
            for (int i = tokenAt; i < behindToken; i++) {
                number = number * 10 + (byteAt(i) - '0');
            }
            return number;
        }

        private void readToken() {
            tokenAt = behindToken;
            while (tokenAt < size && isBlank(byteAt(tokenAt))) {
                tokenAt++;
            }
            behindToken = tokenAt;
            if (tokenAt >= size) {
                token = END_TOKEN;
            } else if (isLetter(byteAt(tokenAt))) {
                readWord();
            } else if (isDigit(byteAt(tokenAt))) {
                readNumber();
            } else {
                token = OTHER_TOKEN;
                behindToken = tokenAt + 1;
            }
        }

        private void readWord() {
            token = WORD_TOKEN;
            while (behindToken < size && isLetter(byteAt(behindToken))) {
                behindToken++;
            }
        }

        private void readNumber() {
            while (behindToken < size && isDigit(byteAt(behindToken))) {
                behindToken++;
            }
            // Of five digits and more it is no number: it can stand nowhere.
            token = behindToken - tokenAt <= 4 ? NUMBER_TOKEN : OTHER_TOKEN;
        }

        private int byteAt(int place) {
            return place < 0 || place >= size || place >= MOST_BYTES ? NONE : bytes[place] & 255;
        }

        private static boolean isBlank(int b) {
            return b == 32 || b == 10;
        }

        private static boolean isLetter(int b) {
            return b >= 'a' && b <= 'z';
        }

        private static boolean isDigit(int b) {
            return b >= '0' && b <= '9';
        }
    }

    /**
     * The balances as equations, one a date: a column for each bond and, behind them, one for each
     * sum s 0 to s T. The sums are counted in twenties, so that all entries are whole numbers.
     */
    private static final class Equations {
        int dates = 0;
        int bonds = 0;
        int columns = 0;
        /** By column, then by date; place 0 of the dates is not used. */
        final long[][] entries = new long[MOST_COLUMNS][MOST_DATES + 1];
        final long[] prices = new long[MOST_COLUMNS];
        final long[] owed = new long[MOST_DATES + 1];

        void read(Plan plan) {
            dates = plan.dates;
            bonds = plan.bonds;
            columns = bonds + dates + 1;
            for (int date = 1; date <= dates; date++) {
                owed[date] = plan.paidAt(date);
                readDate(plan, date);
            }
            for (int column = 0; column < columns; column++) {
                prices[column] = column < bonds ? plan.term(column, PRICE_TERM) : 0;
            }
            prices[bonds] = WHOLE;
        }

        private void readDate(Plan plan, int date) {
            for (int bond = 0; bond < bonds; bond++) {
                entries[bond][date] = plan.yieldAt(bond, date);
            }
            for (int s = 0; s <= dates; s++) {
                entries[bonds + s][date] = 0;
            }
            entries[bonds + date][date] = -WHOLE;
            entries[bonds + date - 1][date] = plan.growth(date);
        }
    }

    /**
     * As many columns as there are dates, inverted. All numbers stay whole: an inverted entry is
     * told times the determinant. (Columns are no longer than 70, so by Hadamard's bound no entry
     * passes 70 to the fourth, and a product of two stays far inside a long.)
     */
    private static final class Basis {
        int size = 0;
        long determinant = 0;
        final int[] chosen = new int[MOST_DATES];
        private final long[][] rows = new long[MOST_DATES][2 * MOST_DATES];

        /** false: the columns hang on one another, and nothing is known. */
        boolean invert(Equations equations, int mask) {
            choose(equations, mask);
            fill(equations);
            long pivotBefore = 1;
            for (int k = 0; k < size; k++) {
                if (pivotBefore == 0 || !bringPivot(k)) {
                    return false;
                }
                clearColumn(k, pivotBefore);
                pivotBefore = rows[k][k];
            }
            determinant = pivotBefore;
            if (determinant < 0) {
                turnSigns();
            }
            return true;
        }

        /** Of the inverse: the row of a chosen column, the column of a date, times the determinant. */
        long inverse(int i, int date) {
            return rows[i][size + date - 1];
        }

        private void choose(Equations equations, int mask) {
            size = 0;
            for (int column = 0; column < equations.columns; column++) {
                if ((mask >> column & 1) == 1 && size < MOST_DATES) {
                    chosen[size] = column;
                    size++;
                }
            }
        }

        private void fill(Equations equations) {
            for (int i = 0; i < size; i++) {
                for (int j = 0; j < size; j++) {
                    rows[i][j] = equations.entries[chosen[j]][i + 1];
                    rows[i][size + j] = i == j ? 1 : 0;
                }
            }
        }

        private boolean bringPivot(int k) {
            for (int i = k; i < size; i++) {
                if (rows[i][k] != 0) {
                    swapRows(i, k);
                    return true;
                }
            }
            return false;
        }

        private void swapRows(int i, int k) {
            for (int j = 0; i != k && j < 2 * size; j++) {
                long entry = rows[i][j];
                rows[i][j] = rows[k][j];
                rows[k][j] = entry;
            }
        }

        /** The division leaves no rest: what it leaves is again a determinant of the first entries. */
        private void clearColumn(int k, long pivotBefore) {
            if (pivotBefore == 0) {
                return;
            }
            long pivot = rows[k][k];
            for (int i = 0; i < size; i++) {
                long factor = rows[i][k];
                for (int j = k + 1; i != k && j < 2 * size; j++) {
                    rows[i][j] = (pivot * rows[i][j] - factor * rows[k][j]) / pivotBefore;
                }
            }
        }

        private void turnSigns() {
            determinant = -determinant;
            for (int i = 0; i < size; i++) {
                for (int j = size; j < 2 * size; j++) {
                    rows[i][j] = -rows[i][j];
                }
            }
        }
    }

    /** Values of all columns (bonds, then sums in twenties) over one lower number, and their price. */
    private static final class Cover {
        long below = 0;
        long price = 0;
        final long[] values = new long[MOST_COLUMNS];

        /** false: a value is below 0, so this is no cover. */
        boolean readOff(Equations equations, Basis basis) {
            below = basis.determinant;
            price = 0;
            for (int column = 0; column < equations.columns; column++) {
                values[column] = 0;
            }
            for (int i = 0; i < basis.size; i++) {
                long value = 0;
                for (int date = 1; date <= equations.dates; date++) {
                    value += basis.inverse(i, date) * equations.owed[date];
                }
                if (value < 0) {
                    return false;
                }
                values[basis.chosen[i]] = value;
                price += value * equations.prices[basis.chosen[i]];
            }
            return true;
        }

        boolean isBetterThan(Cover other, int bonds) {
            if (other.below == 0) {
                return true;
            }
            int order = Long.compare(price * other.below, other.price * below);
            for (int bond = 0; bond < bonds && order == 0; bond++) {
                order = Long.compare(values[bond] * other.below, other.values[bond] * below);
            }
            return order < 0;
        }
    }

    /** Multipliers of the dates over one lower number, and what they make of what is paid. */
    private static final class Proof {
        long below = 0;
        long worth = 0;
        /** By date; place 0 is not used. */
        final long[] values = new long[MOST_DATES + 1];

        /** false: a bond or a carried sum is worth more than it costs, so this proves nothing. */
        boolean readOff(Equations equations, Basis basis) {
            below = basis.determinant;
            worth = 0;
            for (int date = 1; date <= equations.dates; date++) {
                values[date] = 0;
                for (int i = 0; i < basis.size; i++) {
                    values[date] += equations.prices[basis.chosen[i]] * basis.inverse(i, date);
                }
                worth += values[date] * equations.owed[date];
            }
            for (int column = 0; column < equations.columns; column++) {
                if (excess(equations, column) < 0) {
                    return false;
                }
            }
            return true;
        }

        /** By how much a column's price is above what the multipliers make of it (over below). */
        long excess(Equations equations, int column) {
            long rest = equations.prices[column] * below;
            for (int date = 1; date <= equations.dates; date++) {
                rest -= values[date] * equations.entries[column][date];
            }
            return rest;
        }

        boolean isBetterThan(Proof other, int dates) {
            if (other.below == 0) {
                return true;
            }
            int order = Long.compare(other.worth * below, worth * other.below);
            for (int date = 1; date <= dates && order == 0; date++) {
                order = Long.compare(values[date] * other.below, other.values[date] * below);
            }
            return order < 0;
        }
    }

    /**
     * The best cover is a corner of all covers, the multipliers are a corner of all that prove, and
     * each corner belongs to a basis: there are 210 of them at most, so all are looked at.
     */
    private static final class BestCover {
        Cover cover = new Cover();
        Proof proof = new Proof();
        final long[] priceWithout = new long[MOST_BONDS];
        final long[] belowWithout = new long[MOST_BONDS];
        private Cover nextCover = new Cover();
        private Proof nextProof = new Proof();
        private final Equations equations = new Equations();
        private final Basis basis = new Basis();

        void findFor(Plan plan) {
            equations.read(plan);
            cover.below = 0;
            proof.below = 0;
            for (int bond = 0; bond < equations.bonds; bond++) {
                belowWithout[bond] = 0;
            }
            for (int mask = 0; mask < 1 << equations.columns; mask++) {
                if (Integer.bitCount(mask) == equations.dates && basis.invert(equations, mask)) {
                    tryCover();
                    tryProof();
                }
            }
        }

        long excessOf(int bond) {
            return proof.excess(equations, bond);
        }

        private void tryCover() {
            if (!nextCover.readOff(equations, basis)) {
                return;
            }
            tryWithout();
            if (nextCover.isBetterThan(cover, equations.bonds)) {
                Cover before = cover;
                cover = nextCover;
                nextCover = before;
            }
        }

        /** The corners of the covers without a bond are just those at which its part is 0. */
        private void tryWithout() {
            for (int bond = 0; bond < equations.bonds; bond++) {
                if (nextCover.values[bond] == 0 && (belowWithout[bond] == 0
                        || nextCover.price * belowWithout[bond] < priceWithout[bond] * nextCover.below)) {
                    priceWithout[bond] = nextCover.price;
                    belowWithout[bond] = nextCover.below;
                }
            }
        }

        private void tryProof() {
            if (nextProof.readOff(equations, basis) && nextProof.isBetterThan(proof, equations.dates)) {
                Proof before = proof;
                proof = nextProof;
                nextProof = before;
            }
        }
    }

    /**
     * The cheapest cover by whole lots. All sums are told as what they are worth at first, times
     * scale, and are whole so; a cover needs at first the most that is owed up to any date.
     */
    private static final class LotCover {
        long scale = 1;
        long cheapest = 0;
        long atFirst = 0;
        final int[] chosen = new int[MOST_BONDS];
        private int dates = 0;
        private int bonds = 0;
        private final long[] prices = new long[MOST_BONDS];
        private final int[] limits = new int[MOST_BONDS];
        /** By bond, then by date: what one yields up to it. */
        private final long[][] yielded = new long[MOST_BONDS][MOST_DATES + 1];
        /** By bond, then by date: what it and all behind it can save at most, if only that date counts. */
        private final long[][] saving = new long[MOST_BONDS + 1][MOST_DATES + 1];
        /** By how many bonds are chosen, then by date: what is owed up to it. */
        private final long[][] owing = new long[MOST_BONDS + 1][MOST_DATES + 1];
        private final long[] spent = new long[MOST_BONDS + 1];
        private final int[] lot = new int[MOST_BONDS];

        void findFor(Plan plan) {
            read(plan);
            for (int bond = bonds - 1; bond >= 0; bond--) {
                for (int date = 1; date <= dates; date++) {
                    long gain = Math.max(0, yielded[bond][date] - prices[bond]);
                    saving[bond][date] = saving[bond + 1][date] + limits[bond] * gain;
                }
            }
            cheapest = Long.MAX_VALUE;
            search(0);
        }

        int atFirstRoundedUp() {
            return scale < 1 ? 0 : (int) ((atFirst + scale - 1) / scale);
        }

        private void read(Plan plan) {
            dates = plan.dates;
            bonds = plan.bonds;
            scale = 1;
            for (int date = 1; date <= dates; date++) {
                scale *= plan.growth(date);
            }
            readDates(plan);
            for (int date = 1; date <= dates; date++) {
                saving[bonds][date] = 0;
            }
            for (int bond = 0; bond < bonds; bond++) {
                prices[bond] = scale * plan.term(bond, PRICE_TERM);
                // A bond that yields no more than it costs: the money itself does as well.
                boolean pays = yielded[bond][dates] > prices[bond];
                limits[bond] = pays ? plan.term(bond, MOST_TERM) : 0;
                lot[bond] = 0;
            }
        }

        private void readDates(Plan plan) {
            long worth = scale;
            for (int date = 1; date <= dates; date++) {
                int growth = plan.growth(date);
                worth = growth == 0 ? 0 : worth / growth * WHOLE;
                owing[0][date] = (date == 1 ? 0 : owing[0][date - 1]) + worth * plan.paidAt(date);
                for (int bond = 0; bond < bonds; bond++) {
                    long ahead = date == 1 ? 0 : yielded[bond][date - 1];
                    yielded[bond][date] = ahead + worth * plan.yieldAt(bond, date);
                }
            }
        }

        /** In the order of the lots, and only what is cheaper is kept: so the first stays of several. */
        private void search(int bond) {
            if (bond >= bonds) {
                keep();
                return;
            }
            long before = Long.MAX_VALUE;
            for (int n = 0; n <= limits[bond]; n++) {
                choose(bond, n);
                long least = leastCost(bond + 1);
                if (least < cheapest) {
                    search(bond + 1);
                } else if (least >= before) {
                    // It is convex in n, so it falls no more.
                    return;
                }
                before = least;
            }
        }

        private void choose(int bond, int n) {
            lot[bond] = n;
            spent[bond + 1] = spent[bond] + n * prices[bond];
            for (int date = 1; date <= dates; date++) {
                owing[bond + 1][date] = owing[bond][date] - n * yielded[bond][date];
            }
        }

        /** No more than the cost of any cover that goes on from the bonds chosen; exact behind the last. */
        private long leastCost(int bond) {
            long most = 0;
            for (int date = 1; date <= dates; date++) {
                most = Math.max(most, owing[bond][date] - saving[bond][date]);
            }
            return spent[bond] + most;
        }

        private void keep() {
            cheapest = leastCost(bonds);
            atFirst = cheapest - spent[bonds];
            for (int bond = 0; bond < bonds; bond++) {
                chosen[bond] = lot[bond];
            }
        }
    }

    /** The balances of what is held: s t is upper[t] / lower[t], below 0 too. */
    private static final class HeldRun {
        int failsAt = 0;
        long lackUpper = 0;
        long lackLower = 1;
        final long[] upper = new long[MOST_DATES + 1];
        final long[] lower = new long[MOST_DATES + 1];

        void follow(Plan plan, int start) {
            failsAt = 0;
            upper[0] = start;
            lower[0] = 1;
            for (int date = 1; date <= plan.dates; date++) {
                lower[date] = lower[date - 1] * WHOLE;
                upper[date] = upper[date - 1] * plan.growth(date) + lower[date] * netAt(plan, date);
                if (upper[date] < 0 && failsAt == 0) {
                    failsAt = date;
                }
            }
        }

        private static long netAt(Plan plan, int date) {
            long net = -plan.paidAt(date);
            for (int bond = 0; bond < plan.bonds; bond++) {
                net += plan.term(bond, HELD_TERM) * plan.yieldAt(bond, date);
            }
            return net;
        }

        /** What a date lacks is carried back to the date behind which it is put; the most of these. */
        void findLack(Plan plan, int behind) {
            lackUpper = 0;
            lackLower = 1;
            long carried = lower[behind];
            for (int date = behind; date <= plan.dates; date++) {
                if (date > behind) {
                    carried *= plan.growth(date);
                }
                if (-upper[date] * lackLower > lackUpper * carried) {
                    lackUpper = -upper[date];
                    lackLower = carried;
                }
            }
        }
    }
}
