/** Promises 16 to 21 and Term 1 at their edges: the best cover. Each number was worked out by hand. */
public final class BestEdgeTest {
    private static LiabilityMatcher x = new LiabilityMatcher();

    public static void main(String[] args) {
        nothingPaid();
        fractions();
        noPartBelowNothing();
        noSumBelowNothing();
        carriedToTheFirstDate();
        carriedAtEachRate();
        theLeastParts();
        theLeastMultipliers();
        multiplierEdges();
        dear();
        without();
        greatestCosts();
        bondsInAnyOrder();
        mostAndHeldAreNothing();
        calledOnes();
        bondsThatAreNot();
        datesThatAreNot();
        theLastCallOfMany();
        Check.finish();
    }

    private static void take(String text) {
        x = Edge.told(text);
    }

    private static void cost(long up, long low) {
        Check.due("cost", x.cost(false), x.cost(true), up, low);
    }

    private static void part(int bond, long up, long low) {
        Check.due("part " + bond, x.part(bond, false), x.part(bond, true), up, low);
    }

    private static void surplus(int t, long up, long low) {
        Check.due("surplus " + t, x.surplus(t, false), x.surplus(t, true), up, low);
    }

    private static void multiplier(int date, long up, long low) {
        Check.due("multiplier " + date, x.multiplier(date, false), x.multiplier(date, true), up, low);
    }

    private static void dear(int bond, long up, long low) {
        Check.due("dear " + bond, x.dear(bond, false), x.dear(bond, true), up, low);
    }

    private static void without(int bond, long up, long low) {
        Check.due("without " + bond, x.without(bond, false), x.without(bond, true), up, low);
    }

    private static void nothingPaid() {
        Check.about("Term 1: FRACTIONS are told in least terms (0: 0 and 1)");
        take("");
        cost(0, 1);
        surplus(0, 0, 1);
        surplus(1, 0, 1);
        multiplier(1, 0, 1);
        take("dates 4;rate 1 6;rate 4 1;bond 20 40 4 1;bond 0 1 1 200;");
        cost(0, 1);
        for (int t = 0; t <= 4; t++) {
            surplus(t, 0, 1);
        }
        for (int date = 1; date <= 4; date++) {
            multiplier(date, 0, 1);
        }
        for (int bond = 0; bond < 2; bond++) {
            part(bond, 0, 1);
            without(bond, 0, 1);
        }
        // With all multipliers 0 a BOND is DEAR by its whole PRICE.
        dear(0, 1, 1);
        dear(1, 200, 1);
    }

    private static void fractions() {
        Check.about("Term 2: FRACTIONS are told in least terms, the lower number above 0");
        take("pay 1 20;rate 1 5;");
        cost(16, 1);
        multiplier(1, 4, 5);
        take("pay 1 30;rate 1 6;");
        cost(300, 13);
        take("pay 1 13;rate 1 6;");
        cost(10, 1);
        take("pay 1 40;rate 1 4;bond 0 30 1 12;");
        // Four thirds of it: 16.
        cost(16, 1);
        part(0, 4, 3);
        multiplier(1, 2, 5);
        take("pay 1 199;bond 17 40 1 50;");
        cost(9950, 57);
        part(0, 199, 57);
        multiplier(1, 50, 57);
    }

    private static void noPartBelowNothing() {
        Check.about("Term 1: parts x of BONDS (fractions, 0 or above)");
        // Less than none of a bond that is too dear would bring money in.
        take("pay 1 10;bond 0 10 1 20;");
        cost(10, 1);
        part(0, 0, 1);
        surplus(0, 10, 1);
        multiplier(1, 1, 1);
        dear(0, 10, 1);
        without(0, 10, 1);
        take("dates 2;pay 1 10;pay 2 10;bond 10 1 2 25;bond 0 10 1 8;");
        // Two of bond 1, 10 of it carried; less than none of bond 0 would be cheaper.
        cost(16, 1);
        part(0, 0, 1);
        part(1, 2, 1);
        surplus(1, 10, 1);
    }

    private static void noSumBelowNothing() {
        Check.about("Term 1: a sum s 0 (0 or above) at first");
        // What is borrowed at first could be paid back twice over by bond 0.
        take("dates 2;pay 2 10;bond 0 10 1 5;");
        cost(5, 1);
        part(0, 1, 1);
        surplus(0, 0, 1);
        surplus(1, 10, 1);
        surplus(2, 0, 1);
        Check.about("Term 1: A COVER is such that no s is below 0");
        // A bond that pays later only is no help at date 1.
        take("dates 2;pay 1 10;bond 0 40 2 1;");
        cost(10, 1);
        part(0, 0, 1);
        surplus(0, 10, 1);
        surplus(1, 0, 1);
        surplus(2, 0, 1);
        take("dates 4;pay 1 1;pay 2 1;pay 3 1;pay 4 1;bond 0 1 4 1;bond 0 2 4 1;bond 0 4 2 1;");
        // 1 of money, and three quarters of bond 2 for dates 2 to 4: a quarter is cheaper than half of bond 1.
        cost(7, 4);
        part(0, 0, 1);
        part(1, 0, 1);
        part(2, 3, 4);
        surplus(0, 1, 1);
        surplus(1, 0, 1);
        surplus(2, 2, 1);
        surplus(3, 1, 1);
        surplus(4, 0, 1);
        Check.about("Term 1: no s is below 0: the last one may be above");
        take("dates 2;pay 1 10;bond 10 40 2 3;");
        cost(3, 1);
        part(0, 1, 1);
        surplus(1, 0, 1);
        surplus(2, 50, 1);
        multiplier(1, 3, 10);
        multiplier(2, 0, 1);
    }

    private static void carriedToTheFirstDate() {
        Check.about("Term 1: what there is behind the DATE ahead of it (behind 0 ahead of DATE 1) becomes (20 and RATE) by 20 times as much");
        take("pay 1 26;rate 1 6;");
        cost(20, 1);
        surplus(0, 20, 1);
        surplus(1, 0, 1);
        take("pay 1 26;rate 1 0;");
        cost(26, 1);
        take("pay 1 21;rate 1 1;");
        cost(20, 1);
        take("dates 2;pay 1 26;rate 2 6;");
        // The rate of date 2 is not for what is there at first.
        cost(26, 1);
        take("dates 2;pay 2 26;rate 1 6;");
        cost(20, 1);
        surplus(1, 26, 1);
        take("dates 2;pay 2 26;rate 2 6;");
        cost(20, 1);
        surplus(1, 20, 1);
        // What a bond yields at date 2 is not carried to date 2.
        take("dates 2;pay 2 26;rate 2 6;bond 0 26 2 19;bond 0 20 1 19;");
        cost(19, 1);
        part(0, 0, 1);
        part(1, 1, 1);
        surplus(1, 20, 1);
    }

    private static void carriedAtEachRate() {
        Check.about("Term 1: its RATE, 0 to 6 twentieths: at both ends");
        take("dates 4;rate 1 6;rate 2 6;rate 3 6;rate 4 6;pay 4 200;");
        cost(2000000, 28561);
        surplus(0, 2000000, 28561);
        surplus(1, 200000, 2197);
        surplus(2, 20000, 169);
        surplus(3, 2000, 13);
        surplus(4, 0, 1);
        multiplier(1, 10, 13);
        multiplier(2, 100, 169);
        multiplier(3, 1000, 2197);
        multiplier(4, 10000, 28561);
        take("dates 4;pay 4 200;");
        cost(200, 1);
        for (int t = 0; t <= 3; t++) {
            surplus(t, 200, 1);
            multiplier(t + 1, 1, 1);
        }
    }

    private static void theLeastParts() {
        Check.about("Term 1: of several that with the least x of BOND 0, then of BOND 1, and so on");
        take("pay 1 40;bond 0 40 1 20;bond 0 40 1 20;bond 0 40 1 20;bond 0 40 1 20;bond 0 40 1 20;");
        cost(20, 1);
        for (int bond = 0; bond < 5; bond++) {
            part(bond, bond == 4 ? 1 : 0, 1);
            dear(bond, 0, 1);
            without(bond, 20, 1);
        }
        // Money costs as much as a bond: none of the bond.
        take("pay 1 40;bond 0 40 1 40;");
        part(0, 0, 1);
        surplus(0, 40, 1);
        take("pay 1 40;bond 0 40 1 39;");
        part(0, 1, 1);
        surplus(0, 0, 1);
        take("pay 1 26;rate 1 6;bond 0 26 1 20;");
        part(0, 0, 1);
        // Bond 0 must be there; of the others the later one is taken.
        take("dates 2;pay 1 10;pay 2 10;bond 0 10 1 5;bond 0 10 2 4;bond 0 20 2 8;");
        cost(9, 1);
        part(0, 1, 1);
        part(1, 0, 1);
        part(2, 1, 2);
        multiplier(1, 1, 2);
        multiplier(2, 2, 5);
        // Bond 0 does as well as bonds 1 and 2 together: those are taken.
        take("dates 2;pay 1 10;pay 2 20;bond 10 10 2 9;bond 0 10 1 4;bond 0 20 2 5;");
        cost(9, 1);
        part(0, 0, 1);
        part(1, 1, 1);
        part(2, 1, 1);
        // As the others are dearer now, none but bond 0.
        take("dates 2;pay 1 10;pay 2 20;bond 10 10 2 9;bond 0 10 1 5;bond 0 20 2 5;");
        cost(9, 1);
        part(0, 1, 1);
        part(1, 0, 1);
        part(2, 0, 1);
    }

    private static void theLeastMultipliers() {
        Check.about("Term 1: Of several those with the least y 1, then the least y 2, and so on");
        // Only y 2 counts: 10 y 2 is 5, and y 1 may be 1/2 to 1.
        take("dates 2;pay 2 10;bond 0 10 2 5;");
        multiplier(1, 1, 2);
        multiplier(2, 1, 2);
        // Only y 1 counts: y 2 may be 0 to 1.
        take("dates 2;pay 1 10;");
        multiplier(1, 1, 1);
        multiplier(2, 0, 1);
        // y 2 counts; y 1 may be 13/20 to 1, y 3 may be 0 to 1/2.
        take("dates 3;pay 2 10;rate 2 6;bond 0 10 2 5;");
        cost(5, 1);
        multiplier(1, 13, 20);
        multiplier(2, 1, 2);
        multiplier(3, 0, 1);
        take("dates 2;pay 1 5;pay 2 10;bond 5 5 2 6;");
        // One bond is just what is paid: 5 y 1 and 10 y 2 are 6, y 1 is 2/5 (with y 2 2/5) to 1.
        cost(6, 1);
        part(0, 1, 1);
        multiplier(1, 2, 5);
        multiplier(2, 2, 5);
        dear(0, 0, 1);
    }

    private static void multiplierEdges() {
        Check.about("Term 1: (20 and RATE of 1) by 20 times y 1 is 1 or less");
        take("pay 1 10;rate 1 5;bond 0 10 1 8;");
        multiplier(1, 4, 5);
        dear(0, 0, 1);
        take("pay 1 10;rate 1 5;bond 0 10 1 9;");
        multiplier(1, 4, 5);
        dear(0, 1, 1);
        take("pay 1 10;rate 1 5;bond 0 10 1 7;");
        multiplier(1, 7, 10);
        dear(0, 0, 1);
        Check.about("Term 1: y t is (20 and RATE of t + 1) by 20 times y of t + 1, or more (of t below T)");
        take("dates 2;pay 1 10;pay 2 13;rate 2 6;");
        cost(20, 1);
        multiplier(1, 1, 1);
        multiplier(2, 10, 13);
        take("dates 2;pay 1 10;pay 2 13;rate 2 6;bond 0 13 2 9;");
        cost(19, 1);
        multiplier(1, 1, 1);
        multiplier(2, 9, 13);
        take("dates 2;pay 1 10;pay 2 13;rate 2 6;bond 0 13 2 11;");
        cost(20, 1);
        multiplier(2, 10, 13);
        dear(0, 1, 1);
        Check.about("Term 1: y T 0 or more");
        take("dates 2;pay 1 10;bond 10 40 2 3;");
        multiplier(1, 3, 10);
        multiplier(2, 0, 1);
    }

    private static void dear() {
        Check.about("Term 1: DEAR is a BOND by its PRICE less y times what it YIELDS");
        take("pay 1 10;bond 0 20 1 10;bond 0 20 1 11;bond 20 40 1 31;bond 0 1 1 200;bond 0 1 1 1;");
        multiplier(1, 1, 2);
        dear(0, 0, 1);
        dear(1, 1, 1);
        dear(2, 1, 1);
        dear(3, 399, 2);
        dear(4, 1, 2);
    }

    private static void without() {
        Check.about("Term 1: WITHOUT a BOND: COST of BEST with that x 0.");
        take("pay 1 40;bond 0 40 1 10;");
        cost(10, 1);
        without(0, 40, 1);
        take("pay 1 40;bond 0 40 1 10;bond 0 40 1 11;bond 0 40 1 12;bond 0 40 1 50;bond 0 40 1 10;");
        cost(10, 1);
        without(0, 10, 1);
        without(1, 10, 1);
        without(4, 10, 1);
        x.drop(4);
        without(0, 11, 1);
        without(1, 10, 1);
        without(2, 10, 1);
        without(3, 10, 1);
        take("dates 4;pay 1 200;pay 2 200;pay 3 200;pay 4 200;bond 20 40 4 1;");
        // Ten of it are 200 at each date, and more at the last.
        cost(10, 1);
        part(0, 10, 1);
        surplus(4, 400, 1);
        without(0, 800, 1);
    }

    private static void greatestCosts() {
        Check.about("Promise 16: COST of BEST, the greatest and the least");
        take("dates 4;pay 1 200;pay 2 200;pay 3 200;pay 4 200;");
        cost(800, 1);
        surplus(0, 800, 1);
        surplus(1, 600, 1);
        surplus(2, 400, 1);
        surplus(3, 200, 1);
        surplus(4, 0, 1);
        take("pay 1 1;bond 20 40 1 1;");
        cost(1, 60);
        part(0, 1, 60);
        multiplier(1, 1, 60);
        take("pay 1 200;bond 0 1 1 200;");
        cost(200, 1);
        part(0, 0, 1);
        take("pay 1 200;rate 1 6;bond 0 1 1 1;");
        cost(2000, 13);
        part(0, 0, 1);
        dear(0, 3, 13);
        take("dates 4;pay 1 1;rate 1 6;rate 2 6;rate 3 6;rate 4 6;bond 20 40 4 1;bond 20 40 1 1;");
        cost(1, 60);
        part(0, 0, 1);
        part(1, 1, 60);
    }

    private static void bondsInAnyOrder() {
        Check.about("Term 1: BONDS numbered from 0 on as they came: the last END first, too");
        take("dates 4;pay 1 10;pay 2 20;pay 3 30;pay 4 40;bond 0 10 4 5;bond 0 10 3 6;bond 0 10 2 7;bond 0 10 1 8;");
        cost(60, 1);
        for (int bond = 0; bond < 4; bond++) {
            part(bond, 4 - bond, 1);
            dear(bond, 0, 1);
            surplus(bond, 0, 1);
        }
        multiplier(1, 4, 5);
        multiplier(2, 7, 10);
        multiplier(3, 3, 5);
        multiplier(4, 1, 2);
        // Without a bond what is due then comes from the date ahead (at last from money), which is a
        // tenth of it dearer (two tenths).
        without(0, 64, 1);
        without(1, 63, 1);
        without(2, 62, 1);
        without(3, 62, 1);
        take("dates 4;pay 1 12;pay 2 22;pay 3 32;pay 4 42;bond 1 10 4 8;bond 1 10 3 8;bond 1 10 2 8;bond 1 10 1 8;");
        // y 1 is 8/11, and 11 y t are 8 less all y ahead: 8 * 10 ^ (t - 1) / 11 ^ t.
        multiplier(1, 8, 11);
        multiplier(2, 80, 121);
        multiplier(3, 800, 1331);
        multiplier(4, 8000, 14641);
        cost(958336, 14641);
        part(0, 42, 11);
        part(1, 310, 121);
        part(2, 1890, 1331);
        part(3, 5590, 14641);
    }

    private static void mostAndHeldAreNothing() {
        Check.about("Term 1: BEST goes by any parts: MOST, HELD and C are nothing to it");
        take("pay 1 200;bond 0 10 1 1;most 0 0;");
        cost(20, 1);
        part(0, 20, 1);
        x.most(0, 12);
        part(0, 20, 1);
        x.hold(0, 99);
        x.cash(9999);
        cost(20, 1);
        part(0, 20, 1);
        without(0, 200, 1);
        take("pay 1 200;bond 0 1 1 1;rate 1 0;");
        x.drop(0);
        x.bond(0, 2, 1, 1);
        part(0, 100, 1);
    }

    private static void calledOnes() {
        Check.about("Term 1: (CALLED or not: as they YIELD.)");
        take("dates 3;pay 1 15;pay 3 30;bond 5 10 3 6;");
        // One and a half, and money for the rest of date 1: with what is carried that is 30 at date 3.
        cost(33, 2);
        part(0, 3, 2);
        surplus(0, 15, 2);
        surplus(1, 0, 1);
        surplus(2, 15, 2);
        surplus(3, 0, 1);
        x.call(0, 1);
        // 15 at date 1 for 6: three of it.
        cost(18, 1);
        part(0, 3, 1);
        surplus(0, 0, 1);
        surplus(1, 30, 1);
        surplus(3, 0, 1);
        multiplier(3, 2, 5);
        x.call(0, 2);
        // 5 at date 1, 15 at date 2: two of it, and 5 of money for date 1.
        cost(17, 1);
        part(0, 2, 1);
        surplus(0, 5, 1);
        surplus(1, 0, 1);
        surplus(2, 30, 1);
        surplus(3, 0, 1);
        x.call(0, 0);
        cost(33, 2);
        surplus(2, 15, 2);
    }

    private static void bondsThatAreNot() {
        Check.about("Promises 17, 20, 21: -1: there is none such.");
        for (int n = 0; n <= 5; n++) {
            x = Edge.ofBonds(n);
            for (int wrong : new int[] {-1, n, n + 1, 5, 6, Edge.LEAST, Edge.GREATEST}) {
                part(wrong, -1, -1);
                dear(wrong, -1, -1);
                without(wrong, -1, -1);
            }
            for (int bond = 0; bond < n; bond++) {
                Check.due("part of " + bond, x.part(bond, true) > 0, true);
                Check.due("dear of " + bond, x.dear(bond, true) > 0, true);
                Check.due("without " + bond, x.without(bond, true) > 0, true);
            }
        }
        x.drop(4);
        part(4, -1, -1);
        dear(4, -1, -1);
        without(4, -1, -1);
        x.dates(2);
        part(0, -1, -1);
    }

    private static void datesThatAreNot() {
        Check.about("Promise 18: s t of BEST (t 0 to T). -1: there is none such. Promise 19: MULTIPLIER of a DATE. -1: there is none such.");
        for (int t = 1; t <= 4; t++) {
            x = Edge.ofDates(t);
            x.pay(t, 9);
            for (int date = 0; date <= t; date++) {
                surplus(date, date == t ? 0 : 9, 1);
            }
            for (int date = 1; date <= t; date++) {
                multiplier(date, 1, 1);
            }
            for (int wrong : new int[] {-1, t + 1, 5, Edge.LEAST, Edge.GREATEST}) {
                surplus(wrong, -1, -1);
                multiplier(wrong, -1, -1);
            }
            multiplier(0, -1, -1);
        }
    }

    private static void theLastCallOfMany() {
        Check.about("An object is used for at most 512 calls after it has been made");
        x = new LiabilityMatcher();
        x.bond(0, 40, 1, 20);
        for (int call = 2; call < 512; call += 2) {
            x.pay(1, call % 201);
            if (call < 510) {
                Check.due("call " + (call + 1), x.cost(false), call % 201 % 2 == 0 ? call % 201 / 2 : call % 201);
            } else {
                Check.due("call 511", x.lots(0), 3);
            }
        }
        Check.due("call 512", x.cost(false), 54);
    }
}
