import java.util.NoSuchElementException;
import java.util.function.BiPredicate;
import java.util.function.Predicate;
import java.util.function.Supplier;
import java.util.function.ToIntFunction;
import java.util.function.ToLongFunction;

/** What the edge tests share: objects to try calls on, all answers of one, intervals and refused calls. */
final class Edge {
    static final long THROWN = -77;
    static final int LEAST = Integer.MIN_VALUE;
    static final int GREATEST = Integer.MAX_VALUE;
    /** The fault that some() has, and the text on its tape. */
    static final int FAULT_OF_SOME = 1 + 8 * 3;
    static final String TAPE_OF_SOME = "pay 2 50;most 0 4;";
    private static final int[] TERMS = {0, 1, 2, 3, 4, 5, 6, 11, 12, 13, 14};

    private Edge() {
    }

    /** Three dates, three bonds, something held, a fault, a text on the tape. */
    static LiabilityMatcher some() {
        LiabilityMatcher x = new LiabilityMatcher();
        Check.tell(x, "dates 3;pay 1 30;pay 3 200;rate 2 6;rate 3 1;bond 5 40 3 41;bond 0 20 1 19;bond 20 1 2 35;");
        x.most(1, 12);
        x.most(2, 0);
        x.call(0, 2);
        x.hold(0, 3);
        x.hold(1, 99);
        x.cash(77);
        Check.tell(x, "pay");
        Check.put(x, TAPE_OF_SOME);
        return x;
    }

    /** Two dates and as many bonds as are wanted, each of another coupon. */
    static LiabilityMatcher ofBonds(int n) {
        LiabilityMatcher x = new LiabilityMatcher();
        x.dates(2);
        x.pay(1, 60);
        x.pay(2, 90);
        for (int b = 0; b < n; b++) {
            x.bond(b + 1, 10 + b, 1 + b % 2, 9 + b);
        }
        return x;
    }

    static LiabilityMatcher ofDates(int t) {
        LiabilityMatcher x = new LiabilityMatcher();
        x.dates(t);
        return x;
    }

    static LiabilityMatcher told(String text) {
        LiabilityMatcher x = new LiabilityMatcher();
        Check.due("the text '" + text + "' is told", Check.tell(x, text) >= 0, true);
        return x;
    }

    static long told(LiabilityMatcher x, int bond, int what) {
        try {
            return x.told(bond, what);
        } catch (NoSuchElementException e) {
            return THROWN;
        }
    }

    static void terms(LiabilityMatcher x, int bond, int... want) {
        for (int what = 0; what < want.length; what++) {
            Check.due("told " + bond + " " + what, told(x, bond, what), want[what]);
        }
    }

    /** All that an object can be asked (some 150 calls): two objects in one state answer alike. */
    static String answers(LiabilityMatcher x) {
        StringBuilder s = new StringBuilder("counts");
        for (int what = 0; what < 4; what++) {
            s.append(' ').append(x.count(what));
        }
        s.append(" fault ").append(x.fault());
        for (int date = 1; date <= 4; date++) {
            s.append("\ndate ").append(date).append(' ').append(x.date(date, 0)).append(' ').append(x.date(date, 1));
        }
        for (int bond = 0; bond < 5; bond++) {
            s.append("\nbond ").append(bond);
            for (int what : TERMS) {
                s.append(' ').append(told(x, bond, what));
            }
        }
        return s.append(covers(x)).append(run(x)).toString();
    }

    private static String covers(LiabilityMatcher x) {
        StringBuilder s = new StringBuilder("\ncost " + x.cost(false) + "/" + x.cost(true));
        for (int i = 0; i < 5; i++) {
            s.append("\ncover ").append(i);
            s.append(' ').append(x.part(i, false)).append('/').append(x.part(i, true));
            s.append(' ').append(x.surplus(i, false)).append('/').append(x.surplus(i, true));
            s.append(' ').append(x.multiplier(i, false)).append('/').append(x.multiplier(i, true));
            s.append(' ').append(x.dear(i, false)).append('/').append(x.dear(i, true));
            s.append(' ').append(x.without(i, false)).append('/').append(x.without(i, true));
            s.append(' ').append(x.lots(i));
        }
        for (int what = 0; what < 2; what++) {
            s.append("\nlotsCost ").append(x.lotsCost(what, false)).append('/').append(x.lotsCost(what, true));
        }
        return s.toString();
    }

    private static String run(LiabilityMatcher x) {
        StringBuilder s = new StringBuilder("\nfails " + x.fails() + " need " + x.need(false) + "/" + x.need(true));
        for (int t = 0; t < 5; t++) {
            s.append("\nrun ").append(t);
            s.append(' ').append(x.balance(t, false)).append('/').append(x.balance(t, true));
            s.append(' ').append(x.lack(t, false)).append('/').append(x.lack(t, true));
        }
        return s.toString();
    }

    static void same(String what, LiabilityMatcher x, LiabilityMatcher twin) {
        String got = answers(x);
        String want = answers(twin);
        Check.due(what + ": all answers as the twin's", got.equals(want), true);
        if (!got.equals(want)) {
            System.out.println(got + "\n-- the twin:\n" + want);
        }
    }

    /** The same answers now, and of the tape's bytes too: what telling them makes is the same. */
    static void sameWithTape(String what, LiabilityMatcher x, LiabilityMatcher twin) {
        same(what, x, twin);
        Check.due(what + ": tell behind it", x.tell(), twin.tell());
        same(what + ", told", x, twin);
    }

    /** A call that is refused: its answer, and that nothing at all has changed. */
    static void refused(String what, Supplier<LiabilityMatcher> start, ToLongFunction<LiabilityMatcher> call, long want) {
        LiabilityMatcher x = start.get();
        Check.due(what, call.applyAsLong(x), want);
        sameWithTape(what + " refused", x, start.get());
    }

    static void refused(String what, Predicate<LiabilityMatcher> call) {
        refused(what, Edge::some, x -> call.test(x) ? 1 : 0, 0);
    }

    /** Both ends of an interval are taken and told then; what is next to them outside is refused. */
    static void interval(String what, int low, int high, BiPredicate<LiabilityMatcher, Integer> take,
            ToIntFunction<LiabilityMatcher> look) {
        for (int v : new int[] {low, low + 1, high - 1, high}) {
            LiabilityMatcher x = some();
            Check.due(what + " " + v, take.test(x, v), true);
            Check.due(what + " " + v + " is told", look.applyAsInt(x), v);
        }
        for (int v : new int[] {low - 1, high + 1, -high, LEAST, GREATEST}) {
            if (v < low || v > high) {
                refused(what + " " + v, x -> take.test(x, v));
            }
        }
    }
}
