/** Promises 24 to 30: what is held, by examples worked out by hand. */
public final class HeldTest {
    public static void main(String[] args) {
        holdAndCash();
        take();
        run();
        aLateLack();
        heldBonds();
        calledBack();
        wrongOnes();
        Check.finish();
    }

    private static void balance(LiabilityMatcher x, int t, long up, long low) {
        Check.due("balance " + t, x.balance(t, false), x.balance(t, true), up, low);
    }

    private static void need(LiabilityMatcher x, long up, long low) {
        Check.due("need", x.need(false), x.need(true), up, low);
    }

    private static void lack(LiabilityMatcher x, int date, long up, long low) {
        Check.due("lack " + date, x.lack(date, false), x.lack(date, true), up, low);
    }

    private static void holdAndCash() {
        LiabilityMatcher x = new LiabilityMatcher();
        x.bond(1, 1, 1, 1);
        Check.due("hold 99", x.hold(0, 99), true);
        Check.due("hold 100", x.hold(0, 100), false);
        Check.due("hold -1", x.hold(0, -1), false);
        Check.due("hold no bond", x.hold(1, 1), false);
        Check.due("hold bond -1", x.hold(-1, 1), false);
        Check.due("held", x.told(0, 6), 99);
        Check.due("hold the same", x.hold(0, 99), true);
        Check.due("hold 0", x.hold(0, 0), true);
        Check.due("held none", x.told(0, 6), 0);
        Check.due("cash 9999", x.cash(9999), true);
        Check.due("cash 10000", x.cash(10000), false);
        Check.due("cash -1", x.cash(-1), false);
        Check.due("C", x.count(3), 9999);
        Check.due("cash 0", x.cash(0), true);
        Check.due("C 0", x.count(3), 0);
    }

    private static void take() {
        LiabilityMatcher x = new LiabilityMatcher();
        x.cash(5);
        Check.due("take nothing", x.take(), 0);
        Check.due("C 0", x.count(3), 0);
        Check.tell(x, "pay 1 100;rate 1 6;bond 0 40 1 30;bond 0 40 1 39;");
        x.hold(1, 7);
        // Two of bond 0 and 200/13, that is 15 5/13, at first.
        Check.due("take", x.take(), 16);
        Check.due("C", x.count(3), 16);
        Check.due("held 0", x.told(0, 6), 2);
        Check.due("held 1", x.told(1, 6), 0);
        Check.due("fails", x.fails(), 0);
        Check.tell(x, "pay 1 106;");
        // 26 by 13/10 is 20: nothing to be rounded.
        Check.due("take a whole sum", x.take(), 20);
        balance(x, 1, 0, 1);
        LiabilityMatcher z = new LiabilityMatcher();
        Check.tell(z, "rate 1 1;pay 1 20;");
        // 400/21 is 19 1/21: the least rest counts.
        Check.due("take with a small rest", z.take(), 20);
        Check.due("fails not", z.fails(), 0);
        Check.tell(z, "rate 1 0;");
        Check.due("take without a rate", z.take(), 20);
    }

    private static void run() {
        LiabilityMatcher x = new LiabilityMatcher();
        Check.tell(x, "dates 3;rate 2 1;pay 1 10;pay 2 10;pay 3 10;");
        x.cash(21);
        Check.due("fails", x.fails(), 3);
        balance(x, 0, 21, 1);
        balance(x, 1, 11, 1);
        balance(x, 2, 31, 20);
        balance(x, 3, -1, -1);
        need(x, 610, 21);
        lack(x, 0, 169, 21);
        lack(x, 1, 169, 21);
        lack(x, 2, 169, 20);
        lack(x, 3, 169, 20);
        x.cash(0);
        Check.due("fails at once", x.fails(), 1);
        balance(x, 0, 0, 1);
        balance(x, 1, -1, -1);
        balance(x, 2, -1, -1);
        lack(x, 0, 610, 21);
        lack(x, 1, 610, 21);
        lack(x, 2, -1, -1);
        lack(x, 3, -1, -1);
        x.cash(30);
        Check.due("fails not", x.fails(), 0);
        balance(x, 3, 1, 1);
        for (int date = 0; date <= 3; date++) {
            lack(x, date, 0, 1);
        }
        need(x, 610, 21);
    }

    /** A sum that is enough for the last date but not for one between, and the other way round. */
    private static void aLateLack() {
        LiabilityMatcher x = new LiabilityMatcher();
        Check.tell(x, "dates 3;pay 1 7;pay 2 50;bond 0 40 3 1;");
        x.hold(0, 2);
        x.cash(20);
        Check.due("fails", x.fails(), 2);
        balance(x, 1, 13, 1);
        lack(x, 0, 37, 1);
        lack(x, 1, 37, 1);
        lack(x, 2, 37, 1);
        lack(x, 3, -1, -1);
        need(x, 57, 1);
        x.rate(1, 4);
        // 57 is 47 1/2 at first; 20 becomes 24.
        need(x, 95, 2);
        lack(x, 0, 55, 2);
        lack(x, 1, 33, 1);
    }

    private static void heldBonds() {
        LiabilityMatcher x = new LiabilityMatcher();
        Check.tell(x, "dates 2;rate 2 6;pay 1 5;pay 2 100;bond 3 30 2 1;bond 2 10 1 1;");
        x.hold(0, 2);
        x.hold(1, 1);
        // Date 1: 6 and 12 less 5; date 2: 13 becomes 169/10, and 66, less 100.
        Check.due("fails", x.fails(), 2);
        balance(x, 1, 13, 1);
        need(x, 171, 13);
        lack(x, 2, 171, 10);
        x.hold(0, 99);
        x.hold(1, 99);
        x.cash(9999);
        Check.due("plenty", x.fails(), 0);
        balance(x, 1, 11479, 1);
        balance(x, 2, 180897, 10);
        need(x, 0, 1);
    }

    private static void calledBack() {
        LiabilityMatcher x = new LiabilityMatcher();
        Check.tell(x, "dates 3;pay 3 50;bond 10 30 3 1;");
        x.hold(0, 1);
        Check.due("fails not", x.fails(), 0);
        lack(x, 0, 0, 1);
        x.call(0, 1);
        // 40 at date 1 and nothing later.
        Check.due("fails", x.fails(), 3);
        lack(x, 0, 10, 1);
        lack(x, 3, 10, 1);
        balance(x, 2, 40, 1);
        x.rate(2, 5);
        Check.due("carried well", x.fails(), 0);
        balance(x, 3, 0, 1);
    }

    private static void wrongOnes() {
        LiabilityMatcher x = new LiabilityMatcher();
        x.dates(2);
        for (int wrong : new int[] {-1, 3, Integer.MIN_VALUE, Integer.MAX_VALUE}) {
            balance(x, wrong, -1, -1);
            lack(x, wrong, -1, -1);
        }
        balance(x, 2, 0, 1);
        lack(x, 2, 0, 1);
        need(x, 0, 1);
    }
}
