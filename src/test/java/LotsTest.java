/** Promises 22 and 23: the cheapest cover by whole lots, by examples worked out by hand. */
public final class LotsTest {
    public static void main(String[] args) {
        whole();
        theFirstOfSeveral();
        most();
        timing();
        wrongOnes();
        againstTheModel();
        Check.finish();
    }

    private static void lots(LiabilityMatcher x, int... want) {
        for (int b = 0; b < want.length; b++) {
            Check.due("lots " + b, x.lots(b), want[b]);
        }
    }

    private static void costs(LiabilityMatcher x, long up, long low, long firstUp, long firstLow) {
        Check.due("lotsCost 0", x.lotsCost(0, false), x.lotsCost(0, true), up, low);
        Check.due("lotsCost 1", x.lotsCost(1, false), x.lotsCost(1, true), firstUp, firstLow);
    }

    private static void whole() {
        LiabilityMatcher x = new LiabilityMatcher();
        costs(x, 0, 1, 0, 1);
        Check.tell(x, "pay 1 100;rate 1 6;");
        costs(x, 1000, 13, 1000, 13);
        Check.tell(x, "bond 0 40 1 30;");
        // Two leave 20 to be had for 200/13; three cost 90.
        lots(x, 2);
        costs(x, 980, 13, 200, 13);
    }

    private static void theFirstOfSeveral() {
        LiabilityMatcher x = new LiabilityMatcher();
        Check.tell(x, "pay 1 10;bond 0 3 1 2;bond 0 6 1 4;");
        // 7 is the cost of (1, 1) and (3, 0), each with 1 at first.
        lots(x, 1, 1);
        costs(x, 7, 1, 1, 1);
        LiabilityMatcher z = new LiabilityMatcher();
        Check.tell(z, "pay 1 10;bond 0 5 1 5;bond 0 1 1 1;");
        lots(z, 0, 0);
        costs(z, 10, 1, 10, 1);
    }

    private static void most() {
        LiabilityMatcher x = new LiabilityMatcher();
        Check.tell(x, "pay 1 200;bond 0 10 1 1;bond 0 10 1 2;");
        lots(x, 10, 10);
        costs(x, 30, 1, 0, 1);
        x.most(0, 12);
        lots(x, 12, 8);
        costs(x, 28, 1, 0, 1);
        x.most(0, 3);
        x.most(1, 0);
        lots(x, 3, 0);
        costs(x, 173, 1, 170, 1);
        x.most(0, 0);
        lots(x, 0, 0);
        costs(x, 200, 1, 200, 1);
        // HELD is nothing to it.
        x.hold(0, 50);
        x.cash(500);
        costs(x, 200, 1, 200, 1);
    }

    private static void timing() {
        LiabilityMatcher x = new LiabilityMatcher();
        Check.tell(x, "dates 2;pay 1 100;pay 2 100;bond 0 20 1 19;bond 5 20 2 24;");
        lots(x, 4, 4);
        costs(x, 172, 1, 0, 1);
        x.call(1, 1);
        // It yields 25 at date 1 for 24, and bond 0 yields 20 for 19: ten of that, carried for nothing.
        lots(x, 10, 0);
        costs(x, 190, 1, 0, 1);
        x.most(0, 5);
        lots(x, 5, 4);
        costs(x, 191, 1, 0, 1);
        x.most(0, 10);
        x.call(1, 0);
        lots(x, 4, 4);
        x.drop(0);
        lots(x, 4, -1);
        costs(x, 176, 1, 80, 1);
    }

    private static void wrongOnes() {
        LiabilityMatcher x = new LiabilityMatcher();
        Check.due("lots of none", x.lots(0), -1);
        x.bond(1, 1, 1, 1);
        for (int wrong : new int[] {-1, 1, 5, Integer.MIN_VALUE, Integer.MAX_VALUE}) {
            Check.due("lots " + wrong, x.lots(wrong), -1);
        }
        for (int wrong : new int[] {-1, 2, Integer.MIN_VALUE, Integer.MAX_VALUE}) {
            Check.due("lotsCost " + wrong, x.lotsCost(wrong, false), x.lotsCost(wrong, true), -1, -1);
        }
    }

    /** Many small bonds of nearly one price: all of the 13 ^ 5 lots must be thought of. */
    private static void againstTheModel() {
        for (int kind = 0; kind < 6; kind++) {
            LiabilityMatcher x = new LiabilityMatcher();
            Model m = new Model();
            x.dates(4);
            m.dates(4);
            for (int t = 1; t <= 4; t++) {
                x.pay(t, 50 * kind % 201);
                m.pay(t, 50 * kind % 201);
                x.rate(t, (t + kind) % 3);
                m.rate(t, (t + kind) % 3);
            }
            for (int b = 0; b < 5; b++) {
                int coupon = (b * 7 + kind) % 5;
                int end = 1 + (b + kind) % 4;
                int price = Math.max(1, coupon * end + 5 + b - 2);
                x.bond(coupon, 5 + b, end, price);
                m.bond(coupon, 5 + b, end, price);
                x.most(b, 12);
                m.most(b, 12);
            }
            lots(x, m.lots(0), m.lots(1), m.lots(2), m.lots(3), m.lots(4));
            costs(x, m.lotsCost(0, false), m.lotsCost(0, true), m.lotsCost(1, false), m.lotsCost(1, true));
        }
    }
}
