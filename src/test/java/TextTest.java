/** Promises 9 to 12: the tape, and what is told as a text. */
public final class TextTest {
    public static void main(String[] args) {
        tape();
        aText();
        tokens();
        faults();
        aFaultLeavesAll();
        whatWasToldAhead();
        Check.finish();
    }

    private static void tape() {
        LiabilityMatcher x = new LiabilityMatcher();
        for (int n = 1; n <= 15; n++) {
            Check.due("feed", x.feed(0, 0, 0, 0, 0), 20 * n);
        }
        Check.due("feed beyond 300", x.feed(0, 0, 0, 0, 0), -1);
        Check.due("none come", x.count(2), 300);
        Check.due("end 281", x.end(281), true);
        Check.due("feed beyond 300", x.feed(0, 0, 0, 0, 0), -1);
        Check.due("end 280", x.end(280), true);
        Check.due("feed up to 300", x.feed(0, 0, 0, 0, 0), 300);
        Check.due("end 301", x.end(301), false);
        Check.due("end -1", x.end(-1), false);
        Check.due("end at its end", x.end(300), true);
        Check.due("end 0", x.end(0), true);
        Check.due("end 1 of none", x.end(1), false);
        // "pay 1 23;" and bytes behind it: the highest byte of each number is the first.
        x.feed('p' << 24 | 'a' << 16 | 'y' << 8 | ' ', '1' << 24 | ' ' << 16 | '2' << 8 | '3', ';' << 24 | 255, -1, -1);
        Check.due("end 9", x.end(9), true);
        Check.due("tell", x.tell(), 1);
        Check.due("paid", x.date(1, 0), 23);
        Check.due("the tape is empty", x.count(2), 0);
        Check.due("an empty text", x.tell(), 0);
        Check.due("no fault", x.fault(), 0);
    }

    private static void aText() {
        LiabilityMatcher x = new LiabilityMatcher();
        x.cash(17);
        Check.due("tell", Check.tell(x, "dates 4; pay 4 200; rate 2 6; bond 20 40 3 150; most 0 12;\n bond 0 1 1 1;"), 6);
        Check.due("fault", x.fault(), 0);
        Check.due("T", x.count(0), 4);
        Check.due("C stays", x.count(3), 17);
        Check.due("paid 4", x.date(4, 0), 200);
        Check.due("rate 2", x.date(2, 1), 6);
        Check.due("coupon", x.told(0, 0), 20);
        Check.due("face", x.told(0, 1), 40);
        Check.due("end", x.told(0, 2), 3);
        Check.due("price", x.told(0, 3), 150);
        Check.due("most", x.told(0, 4), 12);
        Check.due("most of the other", x.told(1, 4), 10);
        x.hold(1, 3);
        Check.due("it goes on", Check.tell(x, "pay 1 5;most 1 2;"), 2);
        Check.due("held stays", x.told(1, 6), 3);
        Check.due("paid 4 stays", x.date(4, 0), 200);
        Check.due("most 1", x.told(1, 4), 2);
        Check.due("told anew", Check.tell(x, "dates 4;"), 1);
        Check.due("no bonds", x.count(1), 0);
        Check.due("nothing paid", x.date(4, 0), 0);
        Check.due("no rate", x.date(2, 1), 0);
    }

    private static void tokens() {
        LiabilityMatcher x = new LiabilityMatcher();
        Check.due("blanks", Check.tell(x, " \n pay\n1 \n 7\n;\n "), 1);
        Check.due("paid", x.date(1, 0), 7);
        Check.due("no blanks", Check.tell(x, "dates2;pay2 9;rate1 5;bond0 5 1 4;most0 3;"), 5);
        Check.due("paid", x.date(2, 0), 9);
        Check.due("four digits", Check.tell(x, "pay 0001 0200;"), 1);
        Check.due("paid", x.date(1, 0), 200);
        Check.due("blanks alone", Check.tell(x, " \n "), 0);
        StringBuilder most = new StringBuilder();
        for (int i = 0; i < 37; i++) {
            most.append("pay1 ").append(i % 10).append(";\n");
        }
        Check.due("300 bytes", Check.tell(x, most + "    "), 37);
        Check.due("the last one counts", x.date(1, 0), 6);
    }

    private static void faulty(String text, int kind, int place) {
        LiabilityMatcher x = new LiabilityMatcher();
        x.dates(2);
        Check.due("tell '" + text + "'", Check.tell(x, text), -1);
        Check.due("fault of '" + text + "'", x.fault(), kind + 8 * place);
        Check.due("the tape is empty", x.count(2), 0);
    }

    private static void faults() {
        faulty(";", 1, 0);
        faulty("pay", 1, 3);
        faulty("pay 1", 1, 5);
        faulty("pay 1 2", 1, 7);
        faulty("pay 1 2 \n", 1, 9);
        faulty("pay 1 2;;", 1, 8);
        faulty("pay 1 2 3;", 1, 8);
        faulty("pay 12;", 2, 4);
        faulty("pay 1;", 1, 5);
        faulty("pay ,1 2;", 1, 4);
        faulty("pay -1 2;", 1, 4);
        faulty("pays 1 2;", 1, 0);
        faulty("  Pay 1 2;", 1, 2);
        faulty("paypay 1 2;", 1, 0);
        faulty("payz 1 2;", 1, 0);
        faulty("paya 1 2;", 1, 0);
        faulty("zay 1 2;", 1, 0);
        faulty("pax 1 2;", 1, 0);
        faulty("pay` 1 2;", 1, 3);
        faulty("pay{ 1 2;", 1, 3);
        faulty("pay 1/ 2;", 1, 5);
        faulty("pay 1: 2;", 1, 5);
        faulty("pay\t1 2;", 1, 3);
        faulty("1 pay 2;", 1, 0);
        faulty("pay 1 pay;", 1, 6);
        faulty("pay 1 00002;", 1, 6);
        faulty("pay 00001 2;", 1, 4);
        faulty("pay 1 2222;", 2, 6);
        faulty("pay 0 2;", 2, 4);
        faulty("pay 3 x;", 2, 4);
        faulty("pay 1 201;", 2, 6);
        faulty("pay 1 201", 2, 6);
        faulty("rate 1 7;", 2, 7);
        faulty("rate 3 7;", 2, 5);
        faulty("dates 0;", 2, 6);
        faulty("dates 5;", 2, 6);
        faulty("dates 1 1;", 1, 8);
        faulty("bond 21 1 1 1;", 2, 5);
        faulty("bond 20 0 1 1;", 2, 8);
        faulty("bond 20 41 1 1;", 2, 8);
        faulty("bond 20 40 0 1;", 2, 11);
        faulty("bond 20 40 3 1;", 2, 11);
        faulty("bond 20 40 2 0;", 2, 13);
        faulty("bond 20 40 2 201;", 2, 13);
        faulty("bond 20 40 2;", 1, 12);
        faulty("most 0 1;", 2, 5);
        faulty("bond 1 1 1 1;most 1 1;", 2, 18);
        faulty("bond 1 1 1 1;most 0 13;", 2, 20);
        faulty("call 0 1;", 1, 0);
        faulty("pay 1 2;" + (char) 233, 1, 8);
        faulty("pay 1 2;" + (char) 0, 1, 8);
    }

    private static void aFaultLeavesAll() {
        LiabilityMatcher x = new LiabilityMatcher();
        x.dates(2);
        x.pay(2, 30);
        x.rate(1, 3);
        x.bond(1, 20, 2, 15);
        x.hold(0, 4);
        x.call(0, 1);
        x.cash(8);
        long cost = x.cost(false);
        Check.due("a late fault", Check.tell(x, "pay 2 9;rate 1 0;most 0 1;bond 1 1 1 1;dates 3;pay 3 3;x"), -1);
        Check.due("fault", x.fault(), 1 + 8 * 55);
        Check.due("T", x.count(0), 2);
        Check.due("bonds", x.count(1), 1);
        Check.due("paid", x.date(2, 0), 30);
        Check.due("rate", x.date(1, 1), 3);
        Check.due("most", x.told(0, 4), 10);
        Check.due("called", x.told(0, 5), 1);
        Check.due("held", x.told(0, 6), 4);
        Check.due("C", x.count(3), 8);
        Check.due("cost", x.cost(false), cost);
        Check.due("a text without", Check.tell(x, "pay 2 9;"), 1);
        Check.due("no fault", x.fault(), 0);
        Check.due("cost goes on", x.cost(false) == cost, false);
    }

    private static void whatWasToldAhead() {
        LiabilityMatcher x = new LiabilityMatcher();
        String five = "bond 1 1 1 1;bond 1 1 1 1;bond 1 1 1 1;bond 1 1 1 1;bond 1 1 1 1;";
        Check.due("five and a sixth", Check.tell(x, five + " bond 99 x"), -1);
        Check.due("at its word", x.fault(), 3 + 8 * 66);
        Check.due("none came", x.count(1), 0);
        Check.due("five", Check.tell(x, five), 5);
        Check.due("a sixth", Check.tell(x, "bond"), -1);
        Check.due("at its word", x.fault(), 3);
        Check.due("anew, then one", Check.tell(x, "dates 3;bond 1 1 3 1;pay 3 3;"), 3);
        Check.due("fewer dates", Check.tell(x, "dates 2;pay 3 3;"), -1);
        Check.due("no such date", x.fault(), 2 + 8 * 12);
        Check.due("no such bond any more", Check.tell(x, "dates 3;most 0 3;"), -1);
        Check.due("no such bond", x.fault(), 2 + 8 * 13);
    }
}
