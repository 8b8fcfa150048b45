import java.util.NoSuchElementException;

/** Promises 1 to 8 and 13 to 15: what is told by calls. */
public final class ToldTest {
    private static final long THROWN = -77;

    public static void main(String[] args) {
        aNewObject();
        dates();
        payAndRate();
        bonds();
        mostAndCall();
        drop();
        wrongLooks();
        Check.finish();
    }

    private static long told(LiabilityMatcher x, int bond, int what) {
        try {
            return x.told(bond, what);
        } catch (NoSuchElementException e) {
            return THROWN;
        }
    }

    private static void terms(LiabilityMatcher x, int bond, int... want) {
        for (int what = 0; what < want.length; what++) {
            Check.due("told " + bond + " " + what, told(x, bond, what), want[what]);
        }
    }

    private static void aNewObject() {
        LiabilityMatcher x = new LiabilityMatcher();
        Check.due("new: T", x.count(0), 1);
        Check.due("new: bonds", x.count(1), 0);
        Check.due("new: tape", x.count(2), 0);
        Check.due("new: C", x.count(3), 0);
        Check.due("new: paid", x.date(1, 0), 0);
        Check.due("new: rate", x.date(1, 1), 0);
        Check.due("new: no date 2", x.date(2, 0), -1);
        Check.due("new: fault", x.fault(), 0);
        Check.due("new: cost", x.cost(false), x.cost(true), 0, 1);
        Check.due("new: multiplier", x.multiplier(1, false), x.multiplier(1, true), 0, 1);
        Check.due("new: lots", x.lotsCost(0, false), x.lotsCost(0, true), 0, 1);
        Check.due("new: fails", x.fails(), 0);
    }

    private static void dates() {
        LiabilityMatcher x = new LiabilityMatcher();
        Check.due("dates 3", x.dates(3), true);
        x.pay(3, 7);
        x.rate(2, 4);
        x.bond(1, 2, 3, 4);
        x.cash(55);
        x.feed(1, 2, 3, 4, 5);
        for (int wrong : new int[] {0, 5, -1, Integer.MAX_VALUE, Integer.MIN_VALUE}) {
            Check.due("dates " + wrong, x.dates(wrong), false);
        }
        Check.due("all stays: T", x.count(0), 3);
        Check.due("all stays: paid", x.date(3, 0), 7);
        Check.due("all stays: bonds", x.count(1), 1);
        Check.due("dates 4", x.dates(4), true);
        for (int date = 1; date <= 4; date++) {
            Check.due("anew: paid", x.date(date, 0), 0);
            Check.due("anew: rate", x.date(date, 1), 0);
        }
        Check.due("anew: bonds", x.count(1), 0);
        Check.due("C stays", x.count(3), 55);
        Check.due("the tape stays", x.count(2), 20);
        Check.due("tell", x.tell(), -1);
        int fault = x.fault();
        Check.due("a fault", fault, 1);
        Check.due("the same number of dates", x.dates(4), true);
        Check.due("the fault stays", x.fault(), fault);
        x.bond(1, 11, 2, 21);
        x.most(0, 3);
        x.call(0, 1);
        x.hold(0, 5);
        x.dates(2);
        x.bond(2, 12, 2, 22);
        terms(x, 0, 2, 12, 2, 22, 10, 0, 0);
    }

    private static void payAndRate() {
        LiabilityMatcher x = new LiabilityMatcher();
        x.dates(2);
        Check.due("pay 200", x.pay(2, 200), true);
        Check.due("pay 0", x.pay(1, 0), true);
        Check.due("pay 201", x.pay(2, 201), false);
        Check.due("pay -1", x.pay(2, -1), false);
        Check.due("pay at 0", x.pay(0, 1), false);
        Check.due("pay at 3", x.pay(3, 1), false);
        Check.due("paid", x.date(2, 0), 200);
        Check.due("rate 6", x.rate(1, 6), true);
        Check.due("rate 7", x.rate(1, 7), false);
        Check.due("rate -1", x.rate(1, -1), false);
        Check.due("rate at 0", x.rate(0, 1), false);
        Check.due("rate at 3", x.rate(3, 1), false);
        Check.due("rate", x.date(1, 1), 6);
        Check.due("rate 0 again", x.rate(1, 0), true);
        Check.due("rate is 0", x.date(1, 1), 0);
    }

    private static void bonds() {
        LiabilityMatcher x = new LiabilityMatcher();
        x.dates(3);
        int[][] wrong = {{-1, 1, 1, 1}, {21, 1, 1, 1}, {0, 0, 1, 1}, {0, 41, 1, 1}, {0, 1, 0, 1}, {0, 1, 4, 1}, {0, 1, 1, 0}, {0, 1, 1, 201}};
        for (int[] w : wrong) {
            Check.due("a bond that can't be", x.bond(w[0], w[1], w[2], w[3]), -1);
        }
        Check.due("none came", x.count(1), 0);
        Check.due("the least bond", x.bond(0, 1, 1, 1), 0);
        Check.due("the greatest bond", x.bond(20, 40, 3, 200), 1);
        terms(x, 0, 0, 1, 1, 1, 10, 0, 0);
        terms(x, 1, 20, 40, 3, 200, 10, 0, 0);
        Check.due("yield 1", told(x, 1, 11), 20);
        Check.due("yield 2", told(x, 1, 12), 20);
        Check.due("yield 3", told(x, 1, 13), 60);
        Check.due("yield behind the end", told(x, 0, 12), 0);
        Check.due("third", x.bond(1, 1, 1, 1), 2);
        Check.due("fourth", x.bond(1, 1, 1, 1), 3);
        Check.due("fifth", x.bond(1, 1, 1, 1), 4);
        Check.due("sixth", x.bond(1, 1, 1, 1), -2);
        Check.due("sixth that can't be", x.bond(1, 1, 4, 1), -1);
        Check.due("five stay", x.count(1), 5);
    }

    private static void mostAndCall() {
        LiabilityMatcher x = new LiabilityMatcher();
        x.dates(4);
        x.bond(3, 30, 4, 25);
        Check.due("most 12", x.most(0, 12), true);
        Check.due("most 13", x.most(0, 13), false);
        Check.due("most -1", x.most(0, -1), false);
        Check.due("most of no bond", x.most(1, 1), false);
        Check.due("most of bond -1", x.most(-1, 1), false);
        Check.due("most", told(x, 0, 4), 12);
        Check.due("most 0", x.most(0, 0), true);
        Check.due("call at none: it is so", x.call(0, 0), false);
        Check.due("call at END", x.call(0, 4), false);
        Check.due("call behind END", x.call(0, 5), false);
        Check.due("call at -1", x.call(0, -1), false);
        Check.due("call no bond", x.call(1, 1), false);
        Check.due("call bond -1", x.call(-1, 1), false);
        Check.due("call at 2", x.call(0, 2), true);
        Check.due("call at 2 again", x.call(0, 2), false);
        terms(x, 0, 3, 30, 4, 25, 0, 2, 0);
        Check.due("called: yield 1", told(x, 0, 11), 3);
        Check.due("called: yield 2", told(x, 0, 12), 33);
        Check.due("called: yield 3", told(x, 0, 13), 0);
        Check.due("called: yield 4", told(x, 0, 14), 0);
        Check.due("call later, ahead of END", x.call(0, 3), true);
        Check.due("called at 3: yield 3", told(x, 0, 13), 33);
        Check.due("call at none", x.call(0, 0), true);
        Check.due("not called: yield 3", told(x, 0, 13), 3);
        Check.due("not called: yield 4", told(x, 0, 14), 33);
    }

    private static void drop() {
        LiabilityMatcher x = new LiabilityMatcher();
        x.dates(2);
        x.bond(1, 11, 1, 21);
        x.bond(2, 12, 2, 22);
        x.bond(3, 13, 2, 23);
        x.most(2, 7);
        x.call(2, 1);
        x.hold(2, 5);
        Check.due("drop 3", x.drop(3), -1);
        Check.due("drop -1", x.drop(-1), -1);
        Check.due("drop 1", x.drop(1), 2);
        terms(x, 0, 1, 11, 1, 21, 10, 0, 0);
        terms(x, 1, 3, 13, 2, 23, 7, 1, 5);
        Check.due("none at 2", told(x, 2, 0), THROWN);
        Check.due("a bond comes behind", x.bond(4, 14, 2, 24), 2);
        terms(x, 2, 4, 14, 2, 24, 10, 0, 0);
        Check.due("drop 0", x.drop(0), 2);
        Check.due("drop 0", x.drop(0), 1);
        terms(x, 0, 4, 14, 2, 24, 10, 0, 0);
        Check.due("drop the last", x.drop(0), 0);
        Check.due("drop of none", x.drop(0), -1);
    }

    private static void wrongLooks() {
        LiabilityMatcher x = new LiabilityMatcher();
        x.dates(3);
        x.bond(1, 1, 3, 1);
        for (int what : new int[] {-1, 7, 8, 9, 10, 14, 15, Integer.MAX_VALUE, Integer.MIN_VALUE, -2147483635}) {
            Check.due("told 0 " + what, told(x, 0, what), THROWN);
        }
        for (int bond : new int[] {-1, 1, Integer.MAX_VALUE, Integer.MIN_VALUE}) {
            Check.due("told " + bond + " 0", told(x, bond, 0), THROWN);
        }
        for (int what : new int[] {-1, 4, Integer.MAX_VALUE, Integer.MIN_VALUE}) {
            Check.due("count " + what, x.count(what), -1);
        }
        for (int what : new int[] {-1, 2, Integer.MAX_VALUE, Integer.MIN_VALUE}) {
            Check.due("date 1 " + what, x.date(1, what), -1);
        }
        for (int date : new int[] {-1, 0, 4, Integer.MAX_VALUE, Integer.MIN_VALUE}) {
            Check.due("date " + date + " 0", x.date(date, 0), -1);
        }
    }
}
