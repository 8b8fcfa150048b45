/** Promises 22 and 23 and Term 1 at their edges: the cheapest cover by whole lots. Worked out by hand. */
public final class LotsEdgeTest {
    private static LiabilityMatcher x = new LiabilityMatcher();

    public static void main(String[] args) {
        noBonds();
        fromNoneToMost();
        mostOfEach();
        justEnough();
        theFirstOfSeveral();
        moneyOrBonds();
        noSumBelowNothing();
        heldIsNothingToIt();
        changes();
        bondsThatAreNot();
        otherWhats();
        Check.finish();
    }

    private static void take(String text) {
        x = Edge.told(text);
    }

    private static void lots(int... want) {
        for (int bond = 0; bond < want.length; bond++) {
            Check.due("lots " + bond, x.lots(bond), want[bond]);
        }
        Check.due("lots behind the last", x.lots(want.length), -1);
    }

    private static void costs(long up, long low, long firstUp, long firstLow) {
        Check.due("lotsCost 0", x.lotsCost(0, false), x.lotsCost(0, true), up, low);
        Check.due("lotsCost 1", x.lotsCost(1, false), x.lotsCost(1, true), firstUp, firstLow);
    }

    private static void noBonds() {
        Check.about("Promise 23: COST IN LOTS (what 0), s 0 of it (1): without BONDS");
        take("");
        lots();
        costs(0, 1, 0, 1);
        take("pay 1 1;rate 1 6;");
        costs(10, 13, 10, 13);
        take("dates 4;pay 1 200;pay 2 200;pay 3 200;pay 4 200;");
        costs(800, 1, 800, 1);
        take("dates 4;pay 4 200;rate 1 6;rate 2 6;rate 3 6;rate 4 6;");
        costs(2000000, 28561, 2000000, 28561);
    }

    private static void fromNoneToMost() {
        Check.about("Term 1: IN LOTS: the COVER with whole x from 0 to MOST of each BOND");
        // Twenty of it would do; up to MOST are taken, the rest is money.
        take("pay 1 200;bond 0 10 1 1;");
        lots(10);
        costs(110, 1, 100, 1);
        for (int most = 0; most <= 12; most++) {
            x.most(0, most);
            lots(most);
            costs(200 - 9 * most, 1, 200 - 10 * most, 1);
        }
        x.most(0, 13);
        lots(12);
        // Of nothing to be paid none is bought, whatever MOST is.
        take("bond 20 40 1 1;most 0 12;");
        lots(0);
        costs(0, 1, 0, 1);
    }

    private static void mostOfEach() {
        Check.about("Term 1: MOST of each BOND");
        take("pay 1 200;bond 0 3 1 1;bond 0 3 1 1;bond 0 3 1 1;bond 0 3 1 1;bond 0 3 1 1;");
        for (int bond = 0; bond < 5; bond++) {
            x.most(bond, 12);
        }
        lots(12, 12, 12, 12, 12);
        costs(80, 1, 20, 1);
        x.most(0, 0);
        x.most(2, 1);
        x.most(4, 11);
        lots(0, 12, 1, 12, 11);
        costs(128, 1, 92, 1);
        x.pay(1, 105);
        // 35 of the 36 that there may be: the first may be the least.
        lots(0, 11, 1, 12, 11);
        costs(35, 1, 0, 1);
        for (int bond = 0; bond < 5; bond++) {
            x.most(bond, 0);
        }
        lots(0, 0, 0, 0, 0);
        costs(105, 1, 105, 1);
    }

    private static void justEnough() {
        Check.about("Term 1: A COVER is such that no s is below 0: just 0 will do");
        take("pay 1 100;bond 0 10 1 2;most 0 12;");
        lots(10);
        costs(20, 1, 0, 1);
        x.pay(1, 101);
        // One of money is cheaper than an eleventh.
        lots(10);
        costs(21, 1, 1, 1);
        x.pay(1, 102);
        // Two of money cost what an eleventh costs: the fewer.
        lots(10);
        costs(22, 1, 2, 1);
        x.pay(1, 103);
        lots(11);
        costs(22, 1, 0, 1);
        x.pay(1, 109);
        lots(11);
        x.pay(1, 120);
        lots(12);
        costs(24, 1, 0, 1);
        x.pay(1, 121);
        lots(12);
        costs(25, 1, 1, 1);
        x.pay(1, 0);
        lots(0);
        x.pay(1, 1);
        lots(0);
        costs(1, 1, 1, 1);
        take("pay 1 1;bond 20 40 1 1;");
        // One of the bond for 1 leaves 59, but money does as well.
        lots(0);
        x.pay(1, 2);
        lots(1);
        costs(1, 1, 0, 1);
    }

    private static void theFirstOfSeveral() {
        Check.about("Term 1: of the least COST, of several the first by x as above");
        take("pay 1 40;bond 0 40 1 20;bond 0 40 1 20;bond 0 40 1 20;bond 0 40 1 20;bond 0 40 1 20;");
        lots(0, 0, 0, 0, 1);
        x.most(4, 0);
        lots(0, 0, 0, 1, 0);
        x.most(3, 0);
        lots(0, 0, 1, 0, 0);
        x.most(2, 0);
        lots(0, 1, 0, 0, 0);
        x.most(1, 0);
        lots(1, 0, 0, 0, 0);
        costs(20, 1, 0, 1);
        // (2, 0), (1, 2) and (0, 4) cost 20.
        take("pay 1 40;bond 0 20 1 10;bond 0 10 1 5;");
        lots(0, 4);
        x.most(1, 3);
        lots(1, 2);
        x.most(1, 1);
        lots(2, 0);
        costs(20, 1, 0, 1);
        // The least COST goes ahead of the first x.
        take("pay 1 40;bond 0 20 1 9;bond 0 10 1 5;");
        lots(2, 0);
        costs(18, 1, 0, 1);
    }

    private static void moneyOrBonds() {
        Check.about("Term 1: its COST: s 0 and x times PRICE of each BOND");
        take("pay 1 26;rate 1 6;bond 0 26 1 19;");
        lots(1);
        costs(19, 1, 0, 1);
        take("pay 1 26;rate 1 6;bond 0 26 1 20;");
        lots(0);
        costs(20, 1, 20, 1);
        take("pay 1 26;rate 1 6;bond 0 26 1 21;");
        lots(0);
        costs(20, 1, 20, 1);
        take("pay 1 27;rate 1 6;bond 0 26 1 19;");
        lots(1);
        costs(257, 13, 10, 13);
        take("pay 1 200;bond 0 1 1 200;");
        lots(0);
        costs(200, 1, 200, 1);
        // 60 for 1: four are enough.
        take("pay 1 200;bond 20 40 1 1;");
        lots(4);
        costs(4, 1, 0, 1);
    }

    private static void noSumBelowNothing() {
        Check.about("Term 1: no s is below 0, at no DATE");
        take("dates 2;pay 1 10;bond 0 40 2 1;");
        lots(0);
        costs(10, 1, 10, 1);
        take("dates 2;pay 1 10;pay 2 40;bond 0 40 2 1;");
        lots(1);
        costs(11, 1, 10, 1);
        take("dates 2;pay 1 10;pay 2 10;bond 0 20 1 1;");
        lots(1);
        costs(1, 1, 0, 1);
        take("dates 4;pay 1 1;pay 2 1;pay 3 1;pay 4 1;bond 1 1 4 3;bond 0 1 4 1;");
        // It yields 1, 1, 1 and 2: one for 3 is cheaper than 4 of money.
        lots(1, 0);
        costs(3, 1, 0, 1);
        // What is carried counts: 20 behind date 1 are 26 at date 2.
        take("dates 2;pay 2 26;rate 2 6;bond 0 20 1 19;");
        lots(1);
        costs(19, 1, 0, 1);
        take("dates 2;pay 2 27;rate 2 6;bond 0 20 1 19;");
        lots(1);
        costs(257, 13, 10, 13);
    }

    private static void heldIsNothingToIt() {
        Check.about("Term 1: IN LOTS is nothing of what is HELD");
        take("pay 1 40;bond 0 10 1 3;");
        x.hold(0, 99);
        x.cash(9999);
        lots(4);
        costs(12, 1, 0, 1);
        x.take();
        lots(4);
        costs(12, 1, 0, 1);
    }

    private static void changes() {
        Check.about("Promise 22: x of a BOND IN LOTS, as it is now");
        take("dates 2;pay 2 40;bond 0 40 2 30;");
        lots(1);
        x.bond(0, 40, 2, 29);
        lots(0, 1);
        x.pay(2, 80);
        lots(0, 2);
        x.most(1, 1);
        lots(1, 1);
        x.rate(1, 6);
        // 40 are 400/13 at first: still dearer than 30.
        lots(1, 1);
        x.rate(2, 6);
        // 40 are 23 113/169 now: money is the cheapest.
        lots(0, 0);
        costs(8000, 169, 8000, 169);
        x.rate(1, 0);
        x.rate(2, 0);
        x.call(1, 1);
        lots(1, 1);
        x.pay(1, 40);
        x.pay(2, 0);
        lots(0, 1);
        x.call(1, 0);
        lots(0, 0);
        x.drop(0);
        lots(0);
        Check.due("tell", Check.tell(x, "pay 1 0;pay 2 40;"), 2);
        lots(1);
        Check.due("tell with a FAULT", Check.tell(x, "pay 2 0;x"), -1);
        lots(1);
        x.dates(2);
        lots();
        costs(0, 1, 0, 1);
    }

    private static void bondsThatAreNot() {
        Check.about("Promise 22: NONE: there is none such.");
        for (int n = 0; n <= 5; n++) {
            x = Edge.ofBonds(n);
            for (int bond = 0; bond < n; bond++) {
                Check.due("lots " + bond + " of " + n, x.lots(bond) >= 0, true);
            }
            for (int wrong : new int[] {-1, n, n + 1, 5, 6, Edge.LEAST, Edge.GREATEST}) {
                Check.due("lots " + wrong + " of " + n, x.lots(wrong), -1);
            }
        }
        x.drop(0);
        Check.due("lots 4 of 4", x.lots(4), -1);
    }

    private static void otherWhats() {
        Check.about("Promise 23: -1 for another what.");
        take("pay 1 9;");
        costs(9, 1, 9, 1);
        for (int wrong : new int[] {-1, 2, 3, Edge.LEAST, Edge.LEAST + 1, Edge.GREATEST}) {
            Check.due("lotsCost " + wrong, x.lotsCost(wrong, false), x.lotsCost(wrong, true), -1, -1);
        }
    }
}
