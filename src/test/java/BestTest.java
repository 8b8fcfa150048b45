/** Promises 16 to 21: the best cover, by examples that were worked out by hand. */
public final class BestTest {
    public static void main(String[] args) {
        twoBonds();
        partsThatTie();
        multipliersThatTie();
        carried();
        called();
        changesCount();
        greatNumbers();
        wrongOnes();
        Check.finish();
    }

    private static void cost(LiabilityMatcher x, long up, long low) {
        Check.due("cost", x.cost(false), x.cost(true), up, low);
    }

    private static void part(LiabilityMatcher x, int bond, long up, long low) {
        Check.due("part " + bond, x.part(bond, false), x.part(bond, true), up, low);
    }

    private static void surplus(LiabilityMatcher x, int t, long up, long low) {
        Check.due("surplus " + t, x.surplus(t, false), x.surplus(t, true), up, low);
    }

    private static void multiplier(LiabilityMatcher x, int date, long up, long low) {
        Check.due("multiplier " + date, x.multiplier(date, false), x.multiplier(date, true), up, low);
    }

    private static void dear(LiabilityMatcher x, int bond, long up, long low) {
        Check.due("dear " + bond, x.dear(bond, false), x.dear(bond, true), up, low);
    }

    private static void without(LiabilityMatcher x, int bond, long up, long low) {
        Check.due("without " + bond, x.without(bond, false), x.without(bond, true), up, low);
    }

    private static void twoBonds() {
        LiabilityMatcher x = new LiabilityMatcher();
        Check.tell(x, "dates 2;pay 1 100;pay 2 100;bond 0 20 1 19;bond 5 20 2 24;bond 0 40 2 35;");
        // 20 y1 <= 19 and 5 y1 + 25 y2 <= 24: y is 19/20 and 77/100, both bonds four times.
        cost(x, 172, 1);
        part(x, 0, 4, 1);
        part(x, 1, 4, 1);
        part(x, 2, 0, 1);
        surplus(x, 0, 0, 1);
        surplus(x, 1, 0, 1);
        surplus(x, 2, 0, 1);
        multiplier(x, 1, 19, 20);
        multiplier(x, 2, 77, 100);
        dear(x, 0, 0, 1);
        dear(x, 1, 0, 1);
        // 35 less 40 times 77/100.
        dear(x, 2, 21, 5);
        // y1 1, y2 19/25.
        without(x, 0, 176, 1);
        // y1 19/20, y2 7/8: 95 and 87 1/2.
        without(x, 1, 365, 2);
        without(x, 2, 172, 1);
        // MOST is for lots alone.
        x.most(0, 0);
        cost(x, 172, 1);
    }

    private static void partsThatTie() {
        LiabilityMatcher x = new LiabilityMatcher();
        Check.tell(x, "pay 1 10;bond 0 3 1 2;bond 0 6 1 4;");
        cost(x, 20, 3);
        part(x, 0, 0, 1);
        part(x, 1, 5, 3);
        multiplier(x, 1, 2, 3);
        without(x, 0, 20, 3);
        without(x, 1, 20, 3);
        // At the price of money, money is taken: least x of each bond.
        LiabilityMatcher z = new LiabilityMatcher();
        Check.tell(z, "pay 1 10;bond 0 5 1 5;");
        cost(z, 10, 1);
        part(z, 0, 0, 1);
        surplus(z, 0, 10, 1);
        multiplier(z, 1, 1, 1);
        dear(z, 0, 0, 1);
    }

    private static void multipliersThatTie() {
        LiabilityMatcher x = new LiabilityMatcher();
        Check.tell(x, "dates 2;pay 2 10;bond 0 10 2 5;");
        // y1 may be 1/2 to 1: the least one is due.
        cost(x, 5, 1);
        multiplier(x, 1, 1, 2);
        multiplier(x, 2, 1, 2);
        Check.tell(x, "pay 1 10;pay 2 0;");
        // y2 may be 0 to 1/2.
        cost(x, 10, 1);
        multiplier(x, 1, 1, 1);
        multiplier(x, 2, 0, 1);
        dear(x, 0, 5, 1);
        multiplierTieBetweenParts();
        Check.tell(x, "pay 1 0;");
        cost(x, 0, 1);
        multiplier(x, 1, 0, 1);
        multiplier(x, 2, 0, 1);
        dear(x, 0, 5, 1);
        surplus(x, 0, 0, 1);
        without(x, 0, 0, 1);
    }

    private static void multiplierTieBetweenParts() {
        LiabilityMatcher x = new LiabilityMatcher();
        Check.tell(x, "dates 2;pay 1 2;pay 2 4;bond 1 1 2 1;bond 0 7 1 6;");
        // y1 and 2 y2 together are 1 at most by bond 0, which is just what is paid by 2: y1 is 1/3 to
        // 6/7, and of these the least is due (y2 is no more than y1).
        cost(x, 2, 1);
        part(x, 0, 2, 1);
        multiplier(x, 1, 1, 3);
        multiplier(x, 2, 1, 3);
        dear(x, 1, 11, 3);
        LiabilityMatcher z = new LiabilityMatcher();
        Check.tell(z, "dates 2;pay 1 1;pay 2 3;rate 2 6;bond 2 4 2 1;");
        // Half a bond is just what is paid: y1 and 3 y2 are 1/2, and y1 is 13/10 y2 at least.
        cost(z, 1, 2);
        multiplier(z, 1, 13, 86);
        multiplier(z, 2, 5, 43);
    }

    private static void carried() {
        LiabilityMatcher x = new LiabilityMatcher();
        Check.tell(x, "dates 2;rate 1 5;rate 2 1;pay 1 100;pay 2 84;");
        // 84 is 80 behind date 1; 180 is 144 at first.
        cost(x, 144, 1);
        surplus(x, 0, 144, 1);
        surplus(x, 1, 80, 1);
        surplus(x, 2, 0, 1);
        multiplier(x, 1, 4, 5);
        multiplier(x, 2, 16, 21);
        Check.tell(x, "bond 0 40 1 25;pay 2 0;pay 1 100;");
        // 5/8 a unit at date 1: two and a half bonds.
        cost(x, 125, 2);
        part(x, 0, 5, 2);
        surplus(x, 0, 0, 1);
        without(x, 0, 80, 1);
    }

    private static void called() {
        LiabilityMatcher x = new LiabilityMatcher();
        Check.tell(x, "dates 2;pay 1 50;bond 5 20 2 24;");
        cost(x, 50, 1);
        part(x, 0, 0, 1);
        dear(x, 0, 19, 1);
        x.call(0, 1);
        cost(x, 48, 1);
        part(x, 0, 2, 1);
        multiplier(x, 1, 24, 25);
        dear(x, 0, 0, 1);
        without(x, 0, 50, 1);
        x.call(0, 0);
        cost(x, 50, 1);
    }

    /** An answer that was found must not outlive what it hangs on. */
    private static void changesCount() {
        LiabilityMatcher x = new LiabilityMatcher();
        x.pay(1, 40);
        cost(x, 40, 1);
        x.rate(1, 5);
        cost(x, 32, 1);
        x.pay(1, 20);
        cost(x, 16, 1);
        x.bond(0, 40, 1, 10);
        cost(x, 5, 1);
        x.drop(0);
        cost(x, 16, 1);
        Check.tell(x, "bond 0 40 1 2;");
        cost(x, 1, 1);
        x.dates(1);
        cost(x, 0, 1);
    }

    /** Lower numbers near the greatest that there can be. */
    private static void greatNumbers() {
        LiabilityMatcher x = new LiabilityMatcher();
        Model m = new Model();
        int[][] bonds = {{19, 40, 1, 59}, {20, 39, 2, 73}, {17, 40, 3, 83}, {19, 38, 4, 97}, {20, 40, 4, 101}};
        x.dates(4);
        m.dates(4);
        for (int t = 1; t <= 4; t++) {
            int paid = new int[] {199, 197, 193, 200}[t - 1];
            int rate = new int[] {6, 3, 1, 6}[t - 1];
            x.pay(t, paid);
            m.pay(t, paid);
            x.rate(t, rate);
            m.rate(t, rate);
        }
        for (int[] b : bonds) {
            x.bond(b[0], b[1], b[2], b[3]);
            m.bond(b[0], b[1], b[2], b[3]);
        }
        cost(x, m.cost(false), m.cost(true));
        for (int i = 0; i < 5; i++) {
            part(x, i, m.part(i, false), m.part(i, true));
            surplus(x, i, m.surplus(i, false), m.surplus(i, true));
            dear(x, i, m.dear(i, false), m.dear(i, true));
            without(x, i, m.without(i, false), m.without(i, true));
        }
    }

    private static void wrongOnes() {
        LiabilityMatcher x = new LiabilityMatcher();
        Check.tell(x, "dates 3;pay 3 9;bond 1 1 1 1;");
        for (int wrong : new int[] {-1, 1, 5, Integer.MIN_VALUE, Integer.MAX_VALUE}) {
            part(x, wrong, -1, -1);
            dear(x, wrong, -1, -1);
            without(x, wrong, -1, -1);
        }
        for (int wrong : new int[] {-1, 4, Integer.MIN_VALUE, Integer.MAX_VALUE}) {
            surplus(x, wrong, -1, -1);
            multiplier(x, wrong, -1, -1);
        }
        multiplier(x, 0, -1, -1);
    }
}
