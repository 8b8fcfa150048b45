/** Promises 13 to 15 at their edges: what was told. */
public final class LookEdgeTest {
    public static void main(String[] args) {
        count();
        date();
        toldTerms();
        toldYields();
        toldBonds();
        looksChangeNothing();
        Check.finish();
    }

    private static void count() {
        Check.about("Promise 13: What 0: T, 1: BONDS, 2: bytes of the TAPE, 3: C.");
        LiabilityMatcher x = Edge.some();
        Check.due("T", x.count(0), 3);
        Check.due("BONDS", x.count(1), 3);
        Check.due("bytes", x.count(2), Edge.TAPE_OF_SOME.length());
        Check.due("C", x.count(3), 77);
        LiabilityMatcher most = Edge.ofDates(4);
        for (int n = 0; n < 15; n++) {
            most.feed(0, 0, 0, 0, 0);
        }
        for (int b = 0; b < 5; b++) {
            most.bond(0, 1, 4, 1);
        }
        most.cash(9999);
        Check.due("the greatest T", most.count(0), 4);
        Check.due("the most BONDS", most.count(1), 5);
        Check.due("the most bytes", most.count(2), 300);
        Check.due("the greatest C", most.count(3), 9999);
        Check.about("Promise 13: NONE for another what.");
        for (int wrong : new int[] {-1, 4, 5, Edge.LEAST, Edge.LEAST + 3, Edge.GREATEST}) {
            Check.due("count " + wrong, x.count(wrong), -1);
        }
    }

    private static void date() {
        Check.about("Promise 14: Of a DATE, what 0: PAID, 1: RATE.");
        for (int t = 1; t <= 4; t++) {
            LiabilityMatcher x = Edge.ofDates(t);
            for (int date = 1; date <= t; date++) {
                x.pay(date, 200 - date);
                x.rate(date, 7 - date);
            }
            for (int date = 1; date <= t; date++) {
                Check.due("PAID " + date, x.date(date, 0), 200 - date);
                Check.due("RATE " + date, x.date(date, 1), 7 - date);
            }
            Check.about("Promise 14: NONE: there is none such, another what.");
            for (int wrong : new int[] {0, t + 1, 5, -1, -t, Edge.LEAST, Edge.GREATEST}) {
                Check.due("PAID " + wrong + " of " + t, x.date(wrong, 0), -1);
                Check.due("RATE " + wrong + " of " + t, x.date(wrong, 1), -1);
            }
            for (int wrong : new int[] {-1, 2, 3, Edge.LEAST, Edge.LEAST + 1, Edge.GREATEST}) {
                Check.due("date 1 " + wrong, x.date(1, wrong), -1);
                Check.due("date T " + wrong, x.date(t, wrong), -1);
            }
        }
    }

    private static void toldTerms() {
        Check.about("Promise 15: what 0: COUPON, 1: FACE, 2: END, 3: PRICE, 4: MOST, 5: CALLED (0: none), 6: HELD");
        LiabilityMatcher x = Edge.some();
        Edge.terms(x, 0, 5, 40, 3, 41, 10, 2, 3);
        Edge.terms(x, 1, 0, 20, 1, 19, 12, 0, 99);
        Edge.terms(x, 2, 20, 1, 2, 35, 0, 0, 0);
        Check.about("Promise 15: NoSuchElementException: another what.");
        for (int bond = 0; bond < 3; bond++) {
            for (int wrong : new int[] {-1, 7, 8, 9, 10, 14, 15, -10, Edge.LEAST, Edge.LEAST + 9, Edge.LEAST + 10,
                Edge.LEAST + 11, Edge.LEAST + 13, Edge.GREATEST, Edge.GREATEST - 10}) {
                Check.due("told " + bond + " " + wrong, Edge.told(x, bond, wrong), Edge.THROWN);
            }
        }
    }

    private static void toldYields() {
        Check.about("Promise 15: 10 + t: what it YIELDS at DATE t.");
        for (int t = 1; t <= 4; t++) {
            LiabilityMatcher x = Edge.ofDates(t);
            x.bond(4, 30, 1, 1);
            x.bond(4, 30, t, 1);
            Check.due("T " + t + ": what 10", Edge.told(x, 0, 10), Edge.THROWN);
            for (int date = 1; date <= t; date++) {
                Check.due("T " + t + ": END 1 at " + date, Edge.told(x, 0, 10 + date), date == 1 ? 34 : 0);
                Check.due("T " + t + ": END T at " + date, Edge.told(x, 1, 10 + date), date == t ? 34 : 4);
            }
            Check.due("T " + t + ": behind the last DATE", Edge.told(x, 0, 11 + t), Edge.THROWN);
            Check.due("T " + t + ": behind the last DATE", Edge.told(x, 1, 11 + t), Edge.THROWN);
            Check.due("T " + t + ": what 15", Edge.told(x, 1, 15), Edge.THROWN);
        }
    }

    private static void toldBonds() {
        Check.about("Promise 15: NoSuchElementException: there is none such");
        for (int n = 0; n <= 5; n++) {
            LiabilityMatcher x = Edge.ofBonds(n);
            for (int bond = 0; bond < n; bond++) {
                Check.due("COUPON of " + bond + " of " + n, Edge.told(x, bond, 0), bond + 1);
            }
            for (int wrong : new int[] {-1, n, 5, 6, Edge.LEAST, Edge.GREATEST, 613566757}) {
                // 613566757 times seven is 3 beyond 2 ^ 32.
                Check.due("told " + wrong + " 0 of " + n, Edge.told(x, wrong, 0), Edge.THROWN);
                Check.due("told " + wrong + " 11 of " + n, Edge.told(x, wrong, 11), Edge.THROWN);
                Check.due("told " + wrong + " -1 of " + n, Edge.told(x, wrong, -1), Edge.THROWN);
            }
        }
    }

    private static void looksChangeNothing() {
        Check.about("Promises 13 to 15: a look changes nothing, an exception neither");
        Edge.refused("told of none", Edge::some, x -> Edge.told(x, 3, 0), Edge.THROWN);
        Edge.refused("another what", Edge::some, x -> Edge.told(x, 0, 7), Edge.THROWN);
        Edge.refused("count 4", Edge::some, x -> x.count(4), -1);
        Edge.refused("date 4 0", Edge::some, x -> x.date(4, 0), -1);
        Edge.refused("fault", Edge::some, x -> x.fault(), Edge.FAULT_OF_SOME);
    }
}
