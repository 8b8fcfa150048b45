/** Promises 24 to 30 and Term 2 at their edges: what is held. Each number was worked out by hand. */
public final class HeldEdgeTest {
    private static LiabilityMatcher x = new LiabilityMatcher();

    public static void main(String[] args) {
        hold();
        heldGoesWithItsBond();
        cash();
        cashStays();
        takeRoundsUp();
        takeHoldsLots();
        takeChangesNothingElse();
        justBelowNothing();
        justNothing();
        justAboveNothing();
        failsAtEachDate();
        failsAndRecovers();
        balanceOfAll();
        balanceRefused();
        need();
        lackBehindEachDate();
        lackRefused();
        calledBack();
        Check.finish();
    }

    private static void told(String text, int c) {
        x = Edge.told(text);
        x.cash(c);
    }

    private static void balance(int t, long up, long low) {
        Check.due("balance " + t, x.balance(t, false), x.balance(t, true), up, low);
    }

    private static void need(long up, long low) {
        Check.due("need", x.need(false), x.need(true), up, low);
    }

    private static void lack(int date, long up, long low) {
        Check.due("lack " + date, x.lack(date, false), x.lack(date, true), up, low);
    }

    private static void fails(int date) {
        Check.due("fails", x.fails(), date);
    }

    // ---- Promise 24

    private static void hold() {
        Check.about("Term 2: HELD: of each BOND a whole number 0 to 99 (0 at first)");
        for (int bond = 0; bond < 3; bond++) {
            int b = bond;
            Edge.interval("hold " + b, 0, 99, (y, v) -> y.hold(b, v), y -> y.told(b, 6));
        }
        Check.due("0 at first", Edge.ofBonds(1).told(0, 6), 0);
        Check.about("Promise 24: false: no such BOND, it can't be.");
        for (int wrong : new int[] {-1, 3, 5, Edge.LEAST, Edge.GREATEST}) {
            Edge.refused("hold of " + wrong, y -> y.hold(wrong, 5));
        }
        for (int n = 0; n <= 5; n++) {
            x = Edge.ofBonds(n);
            Check.due("hold -1 of " + n, x.hold(-1, 1), false);
            Check.due("hold " + n + " of " + n, x.hold(n, 1), false);
            for (int bond = 0; bond < n; bond++) {
                Check.due("hold " + bond, x.hold(bond, 99 - bond), true);
            }
            for (int bond = 0; bond < n; bond++) {
                Check.due("HELD of " + bond, x.told(bond, 6), 99 - bond);
            }
        }
        Check.about("Term 2: HELD is not kept below MOST");
        x.most(0, 0);
        Check.due("hold beyond MOST", x.hold(0, 99), true);
        Check.due("HELD", x.told(0, 6), 99);
        Check.due("hold the same again", x.hold(0, 99), true);
    }

    private static void heldGoesWithItsBond() {
        Check.about("Promises 2, 8: what is HELD of a BOND goes with it");
        told("pay 1 30;bond 0 10 1 5;bond 0 20 1 5;", 0);
        x.hold(0, 1);
        x.hold(1, 1);
        fails(0);
        balance(1, 0, 1);
        x.drop(0);
        fails(1);
        lack(1, 10, 1);
        x.bond(0, 40, 1, 5);
        fails(1);
        x.dates(1);
        balance(1, 0, 1);
    }

    // ---- Promise 25

    private static void cash() {
        Check.about("Term 2: a sum C, 0 to 9999 (0 at first)");
        Edge.interval("cash", 0, 9999, (y, v) -> y.cash(v), y -> y.count(3));
        Check.about("Promise 25: false: it can't be.");
        for (int wrong : new int[] {-1, 10000, 10001, Edge.LEAST, Edge.GREATEST}) {
            Edge.refused("cash " + wrong, y -> y.cash(wrong));
        }
    }

    private static void cashStays() {
        Check.about("Term 2: C stays with all but cash and take");
        told("pay 1 9;bond 1 1 1 1;", 9999);
        x.dates(3);
        Check.due("C behind dates", x.count(3), 9999);
        Check.tell(x, "dates 2;pay 1 3;");
        Check.due("C behind a text", x.count(3), 9999);
        x.cash(0);
        Check.due("C", x.count(3), 0);
    }

    // ---- Promise 26

    private static void takeRoundsUp(int paid, int rate, int want) {
        told("pay 1 " + paid + ";rate 1 " + rate + ";", 9999);
        Check.due("take for " + paid + " at " + rate, x.take(), want);
        Check.due("C", x.count(3), want);
        fails(0);
    }

    private static void takeRoundsUp() {
        Check.about("Promise 26: C is s 0 of it, rounded up: C.");
        takeRoundsUp(0, 0, 0);
        takeRoundsUp(0, 6, 0);
        // 20/21 and 10/13 are less than 1.
        takeRoundsUp(1, 1, 1);
        takeRoundsUp(1, 6, 1);
        // 19 1/21, 20, 20 20/21.
        takeRoundsUp(20, 1, 20);
        takeRoundsUp(21, 1, 20);
        takeRoundsUp(22, 1, 21);
        takeRoundsUp(13, 6, 10);
        takeRoundsUp(14, 6, 11);
        takeRoundsUp(12, 6, 10);
        takeRoundsUp(200, 0, 200);
        takeRoundsUp(199, 0, 199);
        told("dates 4;pay 1 200;pay 2 200;pay 3 200;pay 4 200;", 5);
        Check.due("the most", x.take(), 800);
        told("dates 4;pay 4 200;rate 1 6;rate 2 6;rate 3 6;rate 4 6;", 5);
        // 2000000/28561 is 70 and a little.
        Check.due("at the highest rates", x.take(), 71);
        told("dates 4;pay 4 1;rate 1 6;rate 2 6;rate 3 6;rate 4 6;", 5);
        Check.due("a third or so", x.take(), 1);
    }

    private static void takeHoldsLots() {
        Check.about("Promise 26: IN LOTS is HELD");
        told("pay 1 200;bond 0 10 1 1;most 0 12;bond 0 1 1 9;", 9999);
        x.hold(0, 99);
        x.hold(1, 99);
        Check.due("take", x.take(), 80);
        Check.due("HELD of 0", x.told(0, 6), 12);
        Check.due("HELD of 1", x.told(1, 6), 0);
        balance(0, 80, 1);
        balance(1, 0, 1);
        x.most(0, 0);
        Check.due("HELD stays till it is taken anew", x.told(0, 6), 12);
        Check.due("take", x.take(), 200);
        Check.due("HELD of 0", x.told(0, 6), 0);
        x.pay(1, 0);
        Check.due("take of nothing", x.take(), 0);
        Check.due("C", x.count(3), 0);
    }

    private static void takeChangesNothingElse() {
        Check.about("Promise 26: nothing but HELD and C");
        x = Edge.some();
        LiabilityMatcher twin = Edge.some();
        int c = x.take();
        for (int bond = 0; bond < 3; bond++) {
            Check.due("hold by hand", twin.hold(bond, twin.lots(bond)), true);
        }
        long up = twin.lotsCost(1, false);
        long low = twin.lotsCost(1, true);
        Check.due("C is s 0 or above, by less than 1", c * low >= up && (c - 1) * low < up, true);
        twin.cash(c);
        Edge.sameWithTape("take", x, twin);
    }

    // ---- Promises 27 to 30

    private static void justBelowNothing() {
        Check.about("Term 2: as far as s is not below 0: it FAILS at the first DATE at which it is.");
        // 39 with all that is paid comes out at -1/160000.
        told("dates 4;rate 1 1;rate 2 1;rate 3 1;rate 4 1;pay 1 18;pay 2 7;pay 3 17;pay 4 1;", 39);
        fails(4);
        balance(0, 39, 1);
        balance(1, 459, 20);
        balance(2, 6839, 400);
        balance(3, 7619, 8000);
        balance(4, -1, -1);
        need(7584760, 194481);
        lack(0, 1, 194481);
        lack(1, 1, 185220);
        lack(2, 1, 176400);
        lack(3, 1, 168000);
        lack(4, 1, 160000);
    }

    private static void justNothing() {
        Check.about("Term 2: it FAILS not at an s that is just 0");
        told("dates 4;rate 1 1;rate 2 1;rate 3 1;rate 4 1;pay 1 1;pay 2 1;pay 3 1;pay 4 21;", 20);
        fails(0);
        for (int t = 0; t <= 3; t++) {
            balance(t, 20, 1);
            lack(t, 0, 1);
        }
        balance(4, 0, 1);
        lack(4, 0, 1);
        need(20, 1);
        told("dates 3;pay 1 5;", 5);
        fails(0);
        balance(1, 0, 1);
        balance(3, 0, 1);
        x.cash(4);
        fails(1);
        x.cash(6);
        fails(0);
        balance(3, 1, 1);
    }

    private static void justAboveNothing() {
        Check.about("Promise 28: s t of the RUN, the least above 0");
        told("dates 4;rate 1 1;rate 2 1;rate 3 1;rate 4 1;pay 1 6;pay 2 16;pay 3 5;pay 4 20;", 41);
        fails(0);
        balance(1, 741, 20);
        balance(2, 9161, 400);
        balance(3, 152381, 8000);
        balance(4, 1, 160000);
        need(7973720, 194481);
        for (int date = 0; date <= 4; date++) {
            lack(date, 0, 1);
        }
    }

    private static void failsAtEachDate() {
        Check.about("Promise 27: The DATE at which the RUN FAILS; 0: at none.");
        for (int t = 1; t <= 4; t++) {
            for (int date = 1; date <= t; date++) {
                x = Edge.ofDates(t);
                x.cash(8);
                x.pay(date, 9);
                fails(date);
                for (int s = 0; s <= t; s++) {
                    Check.about("Promise 28: -1: it FAILS at t or ahead of it.");
                    balance(s, s < date ? 8 : -1, s < date ? 1 : -1);
                    Check.about("Term 2: LACK: none, if it FAILS ahead of d.");
                    lack(s, s <= date ? 1 : -1, s <= date ? 1 : -1);
                }
                Check.about("Promise 27: The DATE at which the RUN FAILS; 0: at none.");
                x.pay(date, 8);
                fails(0);
                need(8, 1);
            }
        }
        x = new LiabilityMatcher();
        fails(0);
        x.pay(1, 200);
        fails(1);
        lack(0, 200, 1);
        lack(1, 200, 1);
    }

    private static void failsAndRecovers() {
        Check.about("Term 2: BALANCES with these, as far as s is not below 0");
        told("dates 3;pay 2 10;bond 0 40 3 1;", 0);
        x.hold(0, 1);
        fails(2);
        balance(1, 0, 1);
        balance(2, -1, -1);
        balance(3, -1, -1);
        lack(0, 10, 1);
        lack(1, 10, 1);
        Check.about("Term 2: put to what there is behind d (as it is, below 0, too)");
        lack(2, 10, 1);
        lack(3, -1, -1);
        need(10, 1);
        // It fails at date 2 by 1, and at date 3 by 7 more.
        told("dates 3;pay 2 6;pay 3 7;rate 3 5;", 5);
        fails(2);
        lack(3, -1, -1);
        // -1 and what becomes 7, that is 28/5.
        lack(2, 33, 5);
        lack(0, 33, 5);
        need(58, 5);
    }

    private static void balanceOfAll() {
        Check.about("Promise 28: s t of the RUN (t 0 to T), with the most that can be HELD");
        told("dates 4;rate 1 6;rate 2 6;rate 3 6;rate 4 6;bond 20 40 4 1;bond 20 40 4 1;bond 20 40 4 1;bond 20 40 4 1;bond 20 40 4 1;", 9999);
        for (int bond = 0; bond < 5; bond++) {
            x.hold(bond, 99);
        }
        fails(0);
        balance(0, 9999, 1);
        balance(1, 228987, 10);
        balance(2, 3966831, 100);
        balance(3, 61468803, 1000);
        balance(4, 1096094439, 10000);
        need(0, 1);
        for (int date = 0; date <= 4; date++) {
            lack(date, 0, 1);
        }
        Check.about("Promise 28: Upper numbers, none below 0; FRACTIONS (0: 0 and 1)");
        x.dates(4);
        x.cash(0);
        for (int t = 0; t <= 4; t++) {
            balance(t, 0, 1);
        }
    }

    private static void balanceRefused() {
        Check.about("Promise 28: -1: there is none such");
        for (int t = 1; t <= 4; t++) {
            x = Edge.ofDates(t);
            x.cash(3);
            for (int s = 0; s <= t; s++) {
                balance(s, 3, 1);
            }
            for (int wrong : new int[] {-1, t + 1, 5, -t, Edge.LEAST, Edge.GREATEST}) {
                balance(wrong, -1, -1);
            }
        }
    }

    private static void need() {
        Check.about("Term 2: NEED: the least s 0 with which it does not fail (a fraction, 0 or above).");
        told("pay 1 40;rate 1 1;bond 0 20 1 1;", 9999);
        need(800, 21);
        x.hold(0, 1);
        need(400, 21);
        x.hold(0, 2);
        // Just nothing is needed, and with three of it not less than nothing.
        need(0, 1);
        x.hold(0, 3);
        need(0, 1);
        told("dates 4;pay 1 200;pay 2 200;pay 3 200;pay 4 200;", 0);
        need(800, 1);
        told("dates 4;pay 4 200;rate 1 6;rate 2 6;rate 3 6;rate 4 6;", 0);
        need(2000000, 28561);
        // The most of all dates counts: 10 for date 1, 10 again for date 3 with what comes at date 2.
        told("dates 3;pay 1 10;pay 3 29;bond 0 20 2 1;", 0);
        x.hold(0, 1);
        need(19, 1);
        x.pay(3, 20);
        need(10, 1);
        x.pay(3, 19);
        need(10, 1);
        x.pay(3, 21);
        need(11, 1);
    }

    private static void lackBehindEachDate() {
        Check.about("Term 2: LACK behind a DATE d (0 to T): the least sum that makes that neither that nor any later s is below 0");
        told("dates 4;rate 1 6;rate 2 6;rate 3 6;rate 4 6;pay 4 200;", 0);
        fails(4);
        lack(0, 2000000, 28561);
        lack(1, 200000, 2197);
        lack(2, 20000, 169);
        lack(3, 2000, 13);
        lack(4, 200, 1);
        x.cash(70);
        fails(4);
        // 70 becomes 199 927/1000.
        lack(4, 73, 1000);
        lack(0, 730, 28561);
        x.cash(71);
        fails(0);
        for (int date = 0; date <= 4; date++) {
            lack(date, 0, 1);
        }
        // Behind date 2 the worst is past.
        told("dates 3;pay 2 10;pay 3 1;bond 0 6 3 1;", 10);
        x.hold(0, 1);
        fails(0);
        x.cash(9);
        lack(0, 1, 1);
        lack(1, 1, 1);
        lack(2, 1, 1);
        lack(3, -1, -1);
    }

    private static void lackRefused() {
        Check.about("Promise 30: -1: none, or no such DATE.");
        for (int t = 1; t <= 4; t++) {
            x = Edge.ofDates(t);
            x.pay(t, 2);
            for (int date = 0; date <= t; date++) {
                lack(date, 2, 1);
            }
            for (int wrong : new int[] {-1, t + 1, 5, -t, Edge.LEAST, Edge.GREATEST}) {
                lack(wrong, -1, -1);
            }
        }
    }

    private static void calledBack() {
        Check.about("What it is: what it lacks if a bond is called back");
        told("dates 4;pay 4 43;bond 1 40 4 30;rate 4 2;", 0);
        x.hold(0, 1);
        // 3 become 33/10, and 41: 13/10 are there at last.
        fails(0);
        balance(4, 13, 10);
        x.call(0, 3);
        // 43 become 47 3/10.
        balance(3, 43, 1);
        balance(4, 43, 10);
        x.call(0, 1);
        // 41 become 45 1/10.
        balance(1, 41, 1);
        balance(4, 21, 10);
        x.pay(4, 46);
        fails(4);
        lack(4, 9, 10);
        lack(3, 9, 11);
        need(9, 11);
        x.call(0, 0);
        fails(4);
        lack(4, 17, 10);
    }
}
