/** Promises 1 to 8 and Term 1 at their edges: what is told by calls. Each part has its sentence ahead of it. */
public final class ToldEdgeTest {
    public static void main(String[] args) {
        aNewObject();
        objectsApart();
        dates();
        datesTellAllAnew();
        pay();
        rate();
        bondsThatCanBe();
        bondEnds();
        fiveBonds();
        most();
        callDates();
        callRefused();
        yields();
        drop();
        theSameAgain();
        Check.finish();
    }

    // ---- Promise 1

    private static void aNewObject() {
        Check.about("Promise 1: T 1, nothing PAID, RATE 0, no BONDS.");
        LiabilityMatcher x = new LiabilityMatcher();
        Check.due("T", x.count(0), 1);
        Check.due("PAID", x.date(1, 0), 0);
        Check.due("RATE", x.date(1, 1), 0);
        Check.due("no DATE 0", x.date(0, 0), -1);
        Check.due("no DATE 2", x.date(2, 0), -1);
        Check.due("BONDS", x.count(1), 0);
        Check.due("no BOND 0", Edge.told(x, 0, 0), Edge.THROWN);
        Check.about("Term 2: a sum C, 0 to 9999 (0 at first)");
        Check.due("C", x.count(3), 0);
        Check.due("s 0", x.balance(0, false), x.balance(0, true), 0, 1);
        Check.about("Promise 12: 0 without, and ahead of any.");
        Check.due("FAULT", x.fault(), 0);
        Check.due("the TAPE is empty", x.count(2), 0);
    }

    /** What one object was told is nothing to another. */
    private static void objectsApart() {
        Check.about("Promise 1: a new object beside others");
        LiabilityMatcher first = new LiabilityMatcher();
        LiabilityMatcher used = Edge.some();
        used.cost(false);
        used.take();
        Edge.same("an object made ahead of another one's calls", first, new LiabilityMatcher());
        LiabilityMatcher a = Edge.ofBonds(5);
        LiabilityMatcher b = Edge.ofBonds(2);
        a.lots(0);
        b.lots(0);
        Edge.same("the first of two", a, Edge.ofBonds(5));
        Edge.same("the second of two", b, Edge.ofBonds(2));
    }

    // ---- Promise 2

    private static void dates() {
        Check.about("Term 1: DATES 1 to T (1 to 4; 1 at first)");
        Edge.interval("dates", 1, 4, (x, v) -> x.dates(v), x -> x.count(0));
        Check.about("Promise 2: false, and all stays: they can't be.");
        for (int wrong : new int[] {0, 5, -1, -4, Edge.LEAST, Edge.LEAST + 1, Edge.GREATEST}) {
            Edge.refused("dates " + wrong, x -> x.dates(wrong));
        }
    }

    private static void datesTellAllAnew() {
        Check.about("Promise 2: all is told anew (no BONDS; C, the TAPE, FAULT stay)");
        for (int t = 1; t <= 4; t++) {
            LiabilityMatcher x = Edge.some();
            Check.due("dates " + t, x.dates(t), true);
            Check.due("T", x.count(0), t);
            Check.due("BONDS", x.count(1), 0);
            for (int date = 1; date <= t; date++) {
                Check.due("PAID " + date, x.date(date, 0), 0);
                Check.due("RATE " + date, x.date(date, 1), 0);
            }
            Check.due("no DATE behind T", x.date(t + 1, 0), -1);
            Check.due("cost of nothing", x.cost(false), x.cost(true), 0, 1);
            Check.due("C", x.count(3), 77);
            Check.due("the TAPE", x.count(2), Edge.TAPE_OF_SOME.length());
            Check.due("FAULT", x.fault(), Edge.FAULT_OF_SOME);
            // The bytes stay too: with one DATE there is no DATE 2, else there is no BOND 0.
            Check.due("tell", x.tell(), -1);
            Check.due("its FAULT", x.fault(), t == 1 ? 2 + 8 * 4 : 2 + 8 * 14);
            Check.due("a BOND is the first again", x.bond(1, 1, t, 1), 0);
            Edge.terms(x, 0, 1, 1, t, 1, 10, 0, 0);
        }
        LiabilityMatcher x = Edge.ofDates(4);
        x.pay(4, 9);
        x.rate(4, 3);
        x.dates(3);
        x.dates(4);
        Check.due("PAID of a DATE that was gone", x.date(4, 0), 0);
        Check.due("RATE of a DATE that was gone", x.date(4, 1), 0);
        x.pay(4, 9);
        Check.due("as many DATES again", x.dates(4), true);
        Check.due("PAID", x.date(4, 0), 0);
    }

    // ---- Promises 3 and 4

    private static void pay() {
        Check.about("Term 1: what is to be PAID, 0 to 200 (0 at first)");
        for (int date = 1; date <= 3; date++) {
            int d = date;
            Edge.interval("pay " + d, 0, 200, (x, v) -> x.pay(d, v), x -> x.date(d, 0));
        }
        Check.about("Promise 3: false: no such DATE, it can't be.");
        for (int wrong : new int[] {0, 4, 5, -1, Edge.LEAST, Edge.GREATEST}) {
            Edge.refused("pay at " + wrong, x -> x.pay(wrong, 9));
        }
        for (int t = 1; t <= 4; t++) {
            LiabilityMatcher x = Edge.ofDates(t);
            Check.due("pay at 0", x.pay(0, 7), false);
            Check.due("pay at 1", x.pay(1, 7), true);
            Check.due("pay at T", x.pay(t, 8), true);
            Check.due("pay behind T", x.pay(t + 1, 9), false);
            for (int date = 1; date <= t; date++) {
                Check.due("PAID " + date + " of " + t, x.date(date, 0), date == t ? 8 : date == 1 ? 7 : 0);
                Check.due("RATE is another thing", x.date(date, 1), 0);
            }
        }
    }

    private static void rate() {
        Check.about("Term 1: its RATE, 0 to 6 twentieths (0 at first)");
        for (int date = 1; date <= 3; date++) {
            int d = date;
            Edge.interval("rate " + d, 0, 6, (x, v) -> x.rate(d, v), x -> x.date(d, 1));
        }
        Check.about("Promise 4: false: no such DATE, it can't be.");
        for (int wrong : new int[] {0, 4, 5, -1, Edge.LEAST, Edge.GREATEST}) {
            Edge.refused("rate at " + wrong, x -> x.rate(wrong, 3));
        }
        for (int t = 1; t <= 4; t++) {
            LiabilityMatcher x = Edge.ofDates(t);
            Check.due("rate at 0", x.rate(0, 4), false);
            Check.due("rate at 1", x.rate(1, 4), true);
            Check.due("rate at T", x.rate(t, 5), true);
            Check.due("rate behind T", x.rate(t + 1, 6), false);
            for (int date = 1; date <= t; date++) {
                Check.due("RATE " + date + " of " + t, x.date(date, 1), date == t ? 5 : date == 1 ? 4 : 0);
                Check.due("PAID is another thing", x.date(date, 0), 0);
            }
        }
    }

    // ---- Promise 5

    private static int coming(LiabilityMatcher x, int place, int v) {
        int[] n = {7, 8, 2, 9};
        n[place] = v;
        return x.bond(n[0], n[1], n[2], n[3]);
    }

    private static void bondsThatCanBe() {
        String[] names = {"COUPON 0 to 20", "FACE 1 to 40", "END (a DATE)", "PRICE 1 to 200"};
        int[][] ends = {{0, 20}, {1, 40}, {1, 3}, {1, 200}};
        for (int place = 0; place < 4; place++) {
            int at = place;
            Check.about("Term 1: " + names[at]);
            Edge.interval(names[at] + ":", ends[at][0], ends[at][1], (x, v) -> coming(x, at, v) >= 0, x -> x.told(3, at));
            Check.about("Promise 5: A BOND comes: its number. NONE: it can't be");
            for (int end : ends[at]) {
                Check.due(names[at] + ": " + end, coming(Edge.some(), at, end), 3);
            }
            for (int wrong : new int[] {ends[at][0] - 1, ends[at][1] + 1, Edge.LEAST, Edge.GREATEST}) {
                Edge.refused(names[at] + ": " + wrong, Edge::some, x -> coming(x, at, wrong), -1);
            }
        }
        LiabilityMatcher x = new LiabilityMatcher();
        Check.due("the least of all", x.bond(0, 1, 1, 1), 0);
        Check.due("the greatest of all", x.bond(20, 40, 1, 200), 1);
        Check.about("Term 1: MOST 0 to 12 (10 when it comes)");
        Edge.terms(x, 0, 0, 1, 1, 1, 10, 0, 0);
        Edge.terms(x, 1, 20, 40, 1, 200, 10, 0, 0);
    }

    private static void bondEnds() {
        Check.about("Term 1: END (a DATE)");
        for (int t = 1; t <= 4; t++) {
            for (int end = -1; end <= 5; end++) {
                LiabilityMatcher x = Edge.ofDates(t);
                boolean isDate = end >= 1 && end <= t;
                Check.due("END " + end + " of " + t, x.bond(1, 2, end, 3), isDate ? 0 : -1);
                Check.due("BONDS", x.count(1), isDate ? 1 : 0);
            }
        }
    }

    private static void fiveBonds() {
        Check.about("Promise 5: -2: there are 5.");
        LiabilityMatcher x = new LiabilityMatcher();
        for (int n = 0; n < 5; n++) {
            Check.due("BOND " + n, x.bond(n, n + 1, 1, n + 1), n);
            Check.due("BONDS", x.count(1), n + 1);
        }
        Check.due("a sixth", x.bond(5, 6, 1, 6), -2);
        Check.due("a sixth again", x.bond(0, 1, 1, 1), -2);
        Check.due("BONDS", x.count(1), 5);
        Edge.refused("a sixth", () -> Edge.ofBonds(5), y -> y.bond(1, 1, 1, 1), -2);
        Check.about("Promise 5: NONE: it can't be; of a sixth too, as it is named first");
        for (int place = 0; place < 4; place++) {
            int at = place;
            Edge.refused("a sixth that can't be", () -> Edge.ofBonds(5), y -> coming(y, at, -1), -1);
        }
        Check.about("Promise 8: A BOND goes, so that one may come");
        Check.due("drop", x.drop(2), 4);
        Check.due("a fifth again", x.bond(9, 9, 1, 9), 4);
        Check.due("a sixth once more", x.bond(9, 9, 1, 9), -2);
    }

    // ---- Promise 6

    private static void most() {
        Check.about("Term 1: MOST 0 to 12 (10 when it comes)");
        for (int bond = 0; bond < 3; bond++) {
            int b = bond;
            Edge.interval("most " + b, 0, 12, (x, v) -> x.most(b, v), x -> x.told(b, 4));
        }
        Check.about("Promise 6: false: no such BOND, it can't be.");
        for (int wrong : new int[] {-1, 3, 5, Edge.LEAST, Edge.GREATEST}) {
            Edge.refused("most of " + wrong, x -> x.most(wrong, 5));
        }
        for (int n = 0; n <= 5; n++) {
            LiabilityMatcher x = Edge.ofBonds(n);
            Check.due("most of -1, " + n + " BONDS", x.most(-1, 3), false);
            Check.due("most of " + n + ", " + n + " BONDS", x.most(n, 3), false);
            for (int bond = 0; bond < n; bond++) {
                Check.due("most of " + bond, x.most(bond, 12 - bond), true);
            }
            for (int bond = 0; bond < n; bond++) {
                Check.due("MOST of " + bond, x.told(bond, 4), 12 - bond);
            }
        }
    }

    // ---- Promise 7

    private static void callDates() {
        Check.about("Promise 7: A BOND is CALLED at a DATE from now on (0: at none): true. false: a DATE that is not ahead of END");
        for (int t = 1; t <= 4; t++) {
            for (int end = 1; end <= t; end++) {
                for (int date = -1; date <= 5; date++) {
                    LiabilityMatcher x = Edge.ofDates(t);
                    x.bond(3, 20, end, 9);
                    boolean ahead = date >= 1 && date < end;
                    Check.due("END " + end + ", call at " + date, x.call(0, date), ahead);
                    Check.due("CALLED", x.told(0, 5), ahead ? date : 0);
                }
            }
        }
        LiabilityMatcher x = Edge.ofDates(4);
        x.bond(3, 20, 4, 9);
        Check.due("call at the last DATE ahead of END", x.call(0, 3), true);
        Check.due("call at the first", x.call(0, 1), true);
        Check.due("call later than it is", x.call(0, 2), true);
        Check.due("at END, while it is CALLED", x.call(0, 4), false);
        Check.due("CALLED stays", x.told(0, 5), 2);
        Check.due("END stays", x.told(0, 2), 4);
        Check.due("call at none", x.call(0, 0), true);
        Check.due("CALLED at none", x.told(0, 5), 0);
    }

    private static void callRefused() {
        Check.about("Promise 7: false: it is so.");
        // Of some() BOND 0 is CALLED at 2, BONDS 1 and 2 are not.
        Edge.refused("call at the same DATE", x -> x.call(0, 2));
        Edge.refused("call at none", x -> x.call(1, 0));
        Edge.refused("call at none", x -> x.call(2, 0));
        Check.about("Promise 7: false: a DATE that is not ahead of END");
        for (int wrong : new int[] {3, 4, -1, Edge.LEAST, Edge.GREATEST}) {
            Edge.refused("call at " + wrong, x -> x.call(0, wrong));
        }
        Edge.refused("END is 1: none is ahead of it", x -> x.call(1, 1));
        Edge.refused("END is 2", x -> x.call(2, 2));
        Check.about("Promise 7: false: no such BOND");
        for (int wrong : new int[] {-1, 3, 5, Edge.LEAST, Edge.GREATEST}) {
            Edge.refused("call " + wrong, x -> x.call(wrong, 1));
            Edge.refused("call " + wrong + " at none", x -> x.call(wrong, 0));
        }
    }

    private static void yields(LiabilityMatcher x, String what, int... want) {
        for (int t = 1; t <= 4; t++) {
            Check.due(what + ", yields at " + t, Edge.told(x, 0, 10 + t), want[t - 1]);
        }
    }

    private static void yields() {
        Check.about("Term 1: A BOND YIELDS its COUPON at each DATE up to END, FACE too at END, nothing later");
        int[][] byEnd = {{23, 0, 0, 0}, {3, 23, 0, 0}, {3, 3, 23, 0}, {3, 3, 3, 23}};
        for (int end = 1; end <= 4; end++) {
            LiabilityMatcher x = Edge.ofDates(4);
            x.bond(3, 20, end, 9);
            yields(x, "END " + end, byEnd[end - 1]);
            for (int date = 1; date < end; date++) {
                Check.about("Term 1: one that is CALLED at a DATE ahead of END yields so as if that was its END.");
                x.call(0, date);
                yields(x, "END " + end + " CALLED at " + date, byEnd[date - 1]);
            }
            x.call(0, 0);
            yields(x, "END " + end + " CALLED at none again", byEnd[end - 1]);
        }
        LiabilityMatcher x = Edge.ofDates(4);
        x.bond(0, 1, 2, 1);
        yields(x, "the least", 0, 1, 0, 0);
        x.drop(0);
        x.bond(20, 40, 4, 200);
        yields(x, "the greatest", 20, 20, 20, 60);
    }

    // ---- Promise 8

    private static void drop() {
        Check.about("Promise 8: A BOND goes (those behind it are one less): how many are left.");
        for (int n = 1; n <= 5; n++) {
            for (int gone = 0; gone < n; gone++) {
                LiabilityMatcher x = Edge.ofBonds(n);
                for (int b = 0; b < n; b++) {
                    x.most(b, 3 + b);
                    x.hold(b, 90 + b);
                    x.call(b, 1);
                }
                Check.due("drop " + gone + " of " + n, x.drop(gone), n - 1);
                Check.due("BONDS", x.count(1), n - 1);
                for (int b = 0; b < n - 1; b++) {
                    int was = b < gone ? b : b + 1;
                    Edge.terms(x, b, was + 1, 10 + was, 1 + was % 2, 9 + was, 3 + was, was % 2, 90 + was);
                }
                Check.due("none at the end", Edge.told(x, n - 1, 0), Edge.THROWN);
                x.bond(1, 1, 2, 1);
                Edge.terms(x, n - 1, 1, 1, 2, 1, 10, 0, 0);
            }
        }
        Check.about("Promise 8: NONE: no such BOND.");
        for (int wrong : new int[] {-1, 3, 5, Edge.LEAST, Edge.GREATEST}) {
            Edge.refused("drop " + wrong, Edge::some, x -> x.drop(wrong), -1);
        }
        for (int n = 0; n <= 5; n++) {
            int behind = n;
            Edge.refused("drop " + n + " of " + n, () -> Edge.ofBonds(behind), x -> x.drop(behind), -1);
        }
    }

    /** Only a call is refused for being so already. */
    private static void theSameAgain() {
        Check.about("Promises 2 to 4, 6, 10, 24, 25: true, of the same as before too");
        LiabilityMatcher x = Edge.some();
        Check.due("pay", x.pay(3, 200), true);
        Check.due("rate", x.rate(2, 6), true);
        Check.due("most", x.most(1, 12), true);
        Check.due("hold", x.hold(1, 99), true);
        Check.due("cash", x.cash(77), true);
        Check.due("end", x.end(Edge.TAPE_OF_SOME.length()), true);
        Edge.sameWithTape("the same again", x, Edge.some());
        x = Edge.some();
        Check.due("dates", x.dates(3), true);
        Check.due("told anew", x.count(1), 0);
    }
}
