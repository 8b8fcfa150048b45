import java.util.Arrays;
import java.util.function.Supplier;

/** Promises 9 to 12 and Term 3 at their edges: the tape, texts and their faults. */
public final class TextEdgeTest {
    private static final String BOND = "bond 1 1 1 1;";

    public static void main(String[] args) {
        feedUpTo300();
        highestByteFirst();
        end();
        endCutsBytesOff();
        tell();
        tellGoesOn();
        tellLeavesTheRest();
        aFaultLeavesAll();
        fault();
        emptyTexts();
        longTexts();
        words();
        numbers();
        blanks();
        singleBytes();
        numbersThatCanBe();
        whatCantStandThere();
        theEndsPlace();
        theFirstAlongTheText();
        ofOnePlaceTheLeast();
        datesAndBondsToldAhead();
        sixthBonds();
        Check.finish();
    }

    private static String many(String piece, int n) {
        return piece.repeat(n);
    }

    private static LiabilityMatcher filled(int bytes) {
        LiabilityMatcher x = Edge.some();
        x.end(0);
        Check.put(x, "pay 2 60;" + many(" ", 291));
        x.end(bytes);
        return x;
    }

    /** A fault: the text has a ^ ahead of the byte at whose place it is told. */
    private static void faulty(Supplier<LiabilityMatcher> start, String marked, int kind) {
        int place = marked.indexOf('^');
        String text = marked.substring(0, place) + marked.substring(place + 1);
        LiabilityMatcher x = start.get();
        x.end(0);
        Check.due("tell '" + marked + "'", Check.tell(x, text), -1);
        Check.due("FAULT of '" + marked + "'", x.fault(), kind + 8 * place);
        Check.due("the TAPE is empty", x.count(2), 0);
    }

    private static void faulty(String marked, int kind) {
        faulty(LiabilityMatcher::new, marked, kind);
    }

    private static void fine(String text, int statements) {
        LiabilityMatcher x = new LiabilityMatcher();
        Check.due("tell '" + text + "'", Check.tell(x, text), statements);
        Check.due("FAULT of '" + text + "'", x.fault(), 0);
    }

    // ---- Promise 9

    private static void feedUpTo300() {
        Check.about("Promise 9: Twenty bytes come behind the TAPE: how many it has. NONE, and none come: more than 300.");
        LiabilityMatcher x = new LiabilityMatcher();
        for (int n = 1; n <= 15; n++) {
            Check.due("feed " + n, x.feed(n, n, n, n, n), 20 * n);
            Check.due("bytes", x.count(2), 20 * n);
        }
        Check.due("feed 16", x.feed(0, 0, 0, 0, 0), -1);
        Check.due("bytes", x.count(2), 300);
        for (int bytes : new int[] {0, 1, 19, 20, 260, 261, 279, 280}) {
            LiabilityMatcher y = filled(bytes);
            Check.due("feed behind " + bytes, y.feed(0, 0, 0, 0, 0), bytes + 20);
            Check.due("bytes", y.count(2), bytes + 20);
        }
        for (int bytes : new int[] {281, 282, 299, 300}) {
            Edge.refused("feed behind " + bytes, () -> filled(bytes), y -> y.feed(0x61616161, 0, -1, 1, 0), -1);
        }
    }

    private static void highestByteFirst() {
        Check.about("Promise 9: of each number the highest first");
        LiabilityMatcher x = new LiabilityMatcher();
        // "date" "s 4 " ";pay" " 4 9" "9;  "
        x.feed(0x64617465, 0x73203420, 0x3b706179, 0x20342039, 0x393b2020);
        Check.due("tell", x.tell(), 2);
        Check.due("T", x.count(0), 4);
        Check.due("PAID", x.date(4, 0), 99);
        // Each of the twenty places has a byte of 128 and above once: it can't stand there.
        for (int place = 0; place < 20; place++) {
            for (int odd : new int[] {128, 233, 255}) {
                LiabilityMatcher y = new LiabilityMatcher();
                int[] n = new int[5];
                Arrays.fill(n, 0x20202020);
                int shift = 24 - 8 * (place % 4);
                n[place / 4] = n[place / 4] & ~(255 << shift) | odd << shift;
                Check.due("feed", y.feed(n[0], n[1], n[2], n[3], n[4]), 20);
                Check.due("tell", y.tell(), -1);
                Check.due("FAULT of byte " + odd + " at " + place, y.fault(), 1 + 8 * place);
            }
        }
    }

    // ---- Promise 10

    private static void end() {
        Check.about("Promise 10: The TAPE has its first n bytes alone: true. false: it has not so many, n is below 0.");
        for (int bytes : new int[] {0, 1, 20, 299, 300}) {
            for (int n : new int[] {0, bytes / 2, Math.max(0, bytes - 1), bytes}) {
                LiabilityMatcher x = filled(bytes);
                Check.due("end " + n + " of " + bytes, x.end(n), true);
                Check.due("bytes", x.count(2), n);
            }
            for (int n : new int[] {-1, -bytes - 1, bytes + 1, bytes + 20, Edge.LEAST, Edge.GREATEST}) {
                Edge.refused("end " + n + " of " + bytes, () -> filled(bytes), x -> x.end(n) ? 1 : 0, 0);
            }
        }
    }

    private static void endCutsBytesOff() {
        Check.about("Promise 10: its first n bytes alone");
        LiabilityMatcher x = new LiabilityMatcher();
        Check.put(x, "pay 1 199;");
        Check.due("cut behind a digit", x.end(7), true);
        Check.due("not so many any more", x.end(8), false);
        Check.put(x, ";");
        Check.due("tell", x.tell(), 1);
        Check.due("PAID", x.date(1, 0), 1);
        Check.put(x, "pay 1 5;rate 1 2;");
        Check.due("cut behind the first", x.end(8), true);
        Check.due("tell", x.tell(), 1);
        Check.due("PAID", x.date(1, 0), 5);
        Check.due("RATE", x.date(1, 1), 0);
        // What was cut off counts no more, though it would have made the text whole.
        Check.put(x, "pay 1 6;");
        Check.due("cut ahead of the ;", x.end(7), true);
        Check.due("tell", x.tell(), -1);
        Check.due("FAULT", x.fault(), 1 + 8 * 7);
        Check.put(x, "pay 1 66;");
        Check.due("cut to nothing", x.end(0), true);
        Check.due("tell", x.tell(), 0);
        Check.due("PAID", x.date(1, 0), 5);
    }

    // ---- Promises 11 and 12

    private static void tell() {
        Check.about("Promise 11: The TAPE (empty then) is told: how many STATEMENTS.");
        LiabilityMatcher x = new LiabilityMatcher();
        for (int n = 0; n <= 20; n++) {
            Check.due(n + " statements", Check.tell(x, many("pay 1 " + n + ";", n)), n);
            Check.due("the TAPE is empty", x.count(2), 0);
        }
        Check.due("told once more: nothing", x.tell(), 0);
        Check.due("PAID", x.date(1, 0), 20);
        Check.about("Promise 11: NONE: a FAULT; the TAPE is empty then too");
        Check.due("a fault", Check.tell(x, "pay 1 7;pay 1 201;"), -1);
        Check.due("the TAPE is empty", x.count(2), 0);
        Check.due("no bytes to keep", x.end(1), false);
        Check.due("tell", x.tell(), 0);
        Check.due("PAID stays", x.date(1, 0), 20);
    }

    private static void tellGoesOn() {
        Check.about("Term 3: A TEXT goes on from what was told.");
        LiabilityMatcher byText = Edge.some();
        byText.tell();
        LiabilityMatcher byCalls = Edge.some();
        byCalls.pay(2, 50);
        byCalls.most(0, 4);
        byCalls.end(0);
        byCalls.tell();
        Edge.same("by a text and by calls", byText, byCalls);
        Check.due("HELD stays", byText.told(1, 6), 99);
        Check.due("CALLED stays", byText.told(0, 5), 2);
        Check.about("Term 3: dates NUMBER (all is told anew, so many DATES, no BONDS; C stays)");
        for (int t = 1; t <= 4; t++) {
            LiabilityMatcher x = Edge.some();
            x.end(0);
            Check.due("dates " + t, Check.tell(x, "dates " + t + ";"), 1);
            LiabilityMatcher anew = Edge.ofDates(t);
            anew.cash(77);
            Edge.same("dates " + t, x, anew);
        }
        LiabilityMatcher x = Edge.some();
        x.end(0);
        Check.due("bonds ahead of dates are gone", Check.tell(x, "bond 1 2 3 4;pay 1 9;dates 2;bond 5 6 2 8;"), 4);
        Check.due("BONDS", x.count(1), 1);
        Check.due("PAID", x.date(1, 0), 0);
        Edge.terms(x, 0, 5, 6, 2, 8, 10, 0, 0);
    }

    /** Of all that can be told, nothing is lost by a text that tells little. */
    private static void tellLeavesTheRest() {
        Check.about("Term 3: A TEXT goes on from what was told.");
        for (String text : new String[] {"", "pay 2 102;", "rate 3 2;most 4 11;"}) {
            LiabilityMatcher x = Edge.ofDates(4);
            for (int date = 1; date <= 4; date++) {
                x.pay(date, 100 + date);
                x.rate(date, 5 - date);
            }
            for (int bond = 0; bond < 5; bond++) {
                x.bond(bond, 20 + bond, 4, 60 + bond);
                x.most(bond, 7 + bond);
                x.call(bond, 1 + bond % 3);
                x.hold(bond, 90 + bond);
            }
            Check.due("tell '" + text + "'", Check.tell(x, text) >= 0, true);
            for (int date = 1; date <= 4; date++) {
                Check.due("PAID " + date, x.date(date, 0), 100 + date);
                Check.due("RATE " + date, x.date(date, 1), 5 - date);
            }
            for (int bond = 0; bond < 5; bond++) {
                Edge.terms(x, bond, bond, 20 + bond, 4, 60 + bond, 7 + bond, 1 + bond % 3, 90 + bond);
            }
        }
    }

    private static void aFaultLeavesAll() {
        Check.about("Promise 11: all else stays as it was ahead of the TEXT");
        String[] texts = {"pay 1 1;x", "rate 1 5;x", "most 0 1;x", "bond 1 1 1 1;x", "dates 1;x", "dates 4;bond 1 1 4 1;most 0 0;pay 4 4;x", "x"};
        for (String text : texts) {
            LiabilityMatcher x = Edge.some();
            x.end(0);
            Check.due("tell '" + text + "'", Check.tell(x, text), -1);
            Check.due("FAULT", x.fault(), 1 + 8 * (text.length() - 1));
            LiabilityMatcher twin = Edge.some();
            twin.end(0);
            Check.tell(twin, many(" ", text.length() - 1) + "x");
            Edge.same("behind '" + text + "'", x, twin);
        }
    }

    private static void fault() {
        Check.about("Promise 12: FAULT of the latest tell(); 0 without, and ahead of any.");
        LiabilityMatcher x = new LiabilityMatcher();
        Check.due("ahead of any", x.fault(), 0);
        Check.put(x, "wrong");
        Check.due("ahead of any, with a wrong text", x.fault(), 0);
        x.tell();
        Check.due("of it", x.fault(), 1);
        Check.put(x, "pay 1 1;");
        Check.due("ahead of the next", x.fault(), 1);
        x.tell();
        Check.due("without", x.fault(), 0);
        Check.tell(x, "pay 1 1;pay 2 1;");
        Check.due("of the third", x.fault(), 2 + 8 * 12);
        Check.tell(x, "pay 1");
        Check.due("of the fourth", x.fault(), 1 + 8 * 5);
        x.dates(0);
        x.dates(2);
        x.pay(3, 3);
        Check.due("calls leave it", x.fault(), 1 + 8 * 5);
        x.tell();
        Check.due("an empty text has none", x.fault(), 0);
    }

    // ---- Term 3: texts

    private static void emptyTexts() {
        Check.about("Term 3: { STATEMENT ; }: none at all, too");
        fine("", 0);
        fine(" ", 0);
        fine("\n", 0);
        fine(many(" \n", 150), 0);
        Check.about("Term 3: { STATEMENT ; }: no ; without a STATEMENT");
        faulty("^;", 1);
        faulty("pay 1 1;^;", 1);
        faulty(" ^;pay 1 1;", 1);
        faulty("pay 1 1; ^;", 1);
    }

    private static void longTexts() {
        Check.about("Term 3: TEXTS, at most 300 bytes");
        LiabilityMatcher x = new LiabilityMatcher();
        Check.due("the 300th byte ends the last", Check.tell(x, many("pay 1 1;", 36) + many(" ", 4) + "pay 1 7;"), 37);
        Check.due("PAID", x.date(1, 0), 7);
        Check.due("the 299th byte ends the last", Check.tell(x, many("pay 1 1;", 36) + many(" ", 3) + "pay 1 8;"), 37);
        Check.due("PAID", x.date(1, 0), 8);
        Check.due("as many statements as there may be", Check.tell(x, many("pay1 1;", 42) + many("\n", 6)), 42);
        Check.about("Term 3: a TOKEN's first byte; the end's: the text's length");
        faulty(many("pay 1 1;", 36) + many(" ", 5) + "pay 1 7^", 1);
        faulty(many(" ", 299) + "^x", 1);
        faulty("^" + many("a", 300), 1);
        faulty("pay ^" + many("1", 296), 1);
        faulty(many(" ", 296) + "pay ^", 1);
    }

    private static void words() {
        Check.about("Term 3: words (letters a to z, as many as stand there)");
        fine("dates 1;pay 1 1;rate 1 1;bond 1 1 1 1;most 0 1;", 5);
        for (String word : new String[] {"date", "datess", "dat", "pa", "payy", "rat", "rates", "bon", "bonds", "mos", "mosts", "p", "a", "z",
            "paypay", "payrate", "zzzzz", "ates", "ond", "bonda", "zmost", "call", "drop", "hold", "cash", "apay", "pzy", "paa"}) {
            faulty("^" + word + " 1 1;", 1);
        }
        for (String word : new String[] {"Pay", "PAY", "DATES"}) {
            faulty("^" + word + " 1 1;", 1);
        }
        faulty("^pAy 1 1;", 1);
        faulty("^paY 1 1;", 1);
        faulty("pay^`1 1;", 1);
        faulty("pay^{1 1;", 1);
        faulty("^`pay 1 1;", 1);
        faulty("^{pay 1 1;", 1);
        faulty("pay^@ 1 1;", 1);
        faulty("pay^[ 1 1;", 1);
    }

    private static void numbers() {
        Check.about("Term 3: NUMBERS (1 to 4 digits, as many as stand there)");
        fine("pay 1 0;pay 01 00;pay 001 000;pay 0001 0000;", 4);
        LiabilityMatcher x = new LiabilityMatcher();
        Check.due("four digits", Check.tell(x, "pay 0001 0200;"), 1);
        Check.due("PAID", x.date(1, 0), 200);
        Check.due("all digits", Check.tell(x, "pay 1 123;"), 1);
        Check.due("PAID", x.date(1, 0), 123);
        Check.due("all digits", Check.tell(x, "pay 1 098;"), 1);
        Check.due("PAID", x.date(1, 0), 98);
        faulty("pay ^11 1;", 2);
        faulty("pay ^11;", 2);
        faulty("pay ^9999 1;", 2);
        faulty("pay 1 ^9999;", 2);
        Check.about("Term 3: 1 what can't stand there (a NUMBER of 5 digits and more, too).");
        faulty("pay ^00001 1;", 1);
        faulty("pay 1 ^00001;", 1);
        faulty("pay ^000000 1;", 1);
        faulty("pay 1 ^10000;", 1);
        faulty("pay 1 ^99999;", 1);
        faulty("dates ^00001;", 1);
        faulty("bond ^00001 1 1 1;", 1);
        faulty("bond 1 ^00001 1 1;", 1);
        faulty("bond 1 1 ^00001 1;", 1);
        faulty("bond 1 1 1 ^00001;", 1);
        faulty(BOND + "most ^00000 1;", 1);
        faulty(BOND + "most 0 ^00000;", 1);
        faulty("rate ^00001 1;", 1);
        faulty("rate 1 ^00001;", 1);
        faulty("^00001 pay;", 1);
        faulty("pay 1 1 ^00001;", 1);
        // Numbers that would be 1 again, if they wrapped around.
        faulty("pay ^4294967297 1;", 1);
        faulty("pay 1 ^4294967297;", 1);
        faulty("pay 1 ^18446744073709551617;", 1);
        faulty("pay ^65537 1;", 1);
        faulty("pay 1 ^/1;", 1);
        faulty("pay 1 ^:1;", 1);
        faulty("pay 1^/ 1;", 1);
        faulty("pay 1^: 1;", 1);
        fine("pay 1 9;", 1);
        fine("pay 1 0;", 1);
        faulty("pay ^-1 1;", 1);
        faulty("pay ^+1 1;", 1);
        faulty("pay 1^.0 1;", 1);
    }

    private static void blanks() {
        Check.about("Term 3: blanks (32, 10) between or not");
        fine("pay1 1;pay1 1;", 2);
        fine("pay1\n1;pay\n1 1 ;\npay 1 1\n;", 3);
        fine(" \n pay \n 1 \n 1 \n ; \n ", 1);
        fine("dates1;bond0 1 1 1;most0 0;", 3);
        faulty("^pa y 1 1;", 1);
        faulty("pay 1 1 ^1;", 1);
        faulty("pay 1 1 ^0;", 1);
        for (int odd : new int[] {0, 8, 9, 11, 12, 13, 31, 33, 42, 127, 128, 138, 160, 255}) {
            String b = String.valueOf((char) odd);
            faulty("pay^" + b + "1 1;", 1);
            faulty("pay 1^" + b + "1;", 1);
            faulty("pay 1 1^" + b + ";", 1);
            faulty("^" + b + "pay 1 1;", 1);
            faulty("pay 1 1;^" + b, 1);
        }
    }

    private static void singleBytes() {
        Check.about("Term 3: single bytes");
        // Every byte but blanks, letters, digits and ; is a TOKEN that can stand nowhere.
        for (int odd = 0; odd < 256; odd++) {
            boolean isBlank = odd == 32 || odd == 10;
            boolean isDigit = odd >= 48 && odd <= 57;
            String b = String.valueOf((char) odd);
            if (isBlank) {
                fine("pay 1 1" + b + ";", 1);
            } else if (isDigit) {
                fine("pay 1 1" + b + ";", 1);
                faulty("pay 1 1;^" + b, 1);
            } else if (odd == ';') {
                faulty("pay 1 1;^" + b, 1);
            } else {
                faulty("pay 1 1^" + b + ";", 1);
                faulty("pay 1 1;^" + b, 1);
            }
        }
        for (int odd : new int[] {':', '<', ',', '.', 0xbb, 0x1b}) {
            faulty("pay 1 1^" + (char) odd, 1);
        }
    }

    /** Both ends of what a NUMBER can be, and those next to them, by the text ahead of and behind it. */
    private static void ends(String ahead, String behind, int low, int high) {
        for (int v : new int[] {low, low + 1, high - 1, high}) {
            String text = ahead + v + behind;
            LiabilityMatcher x = Edge.some();
            x.end(0);
            Check.due("tell '" + text + "'", Check.tell(x, text) > 0, true);
        }
        faulty(Edge::some, ahead + "^" + (high + 1) + behind, 2);
        faulty(Edge::some, ahead + "^9999" + behind, 2);
        if (low > 0) {
            faulty(Edge::some, ahead + "^" + (low - 1) + behind, 2);
            faulty(Edge::some, ahead + "^0000" + behind, 2);
        }
        faulty(Edge::some, ahead + "^-1" + behind, 1);
    }

    private static void numbersThatCanBe() {
        Check.about("Term 3: 2 a NUMBER that can't be (a DATE, BOND that there is not, too)");
        // some() has three DATES and three BONDS.
        ends("dates ", ";", 1, 4);
        ends("pay ", " 1;", 1, 3);
        ends("pay 1 ", ";", 0, 200);
        ends("rate ", " 1;", 1, 3);
        ends("rate 1 ", ";", 0, 6);
        ends("bond ", " 1 1 1;", 0, 20);
        ends("bond 1 ", " 1 1;", 1, 40);
        ends("bond 1 1 ", " 1;", 1, 3);
        ends("bond 1 1 1 ", ";", 1, 200);
        ends("most ", " 1;", 0, 2);
        ends("most 0 ", ";", 0, 12);
        for (int n = 0; n <= 5; n++) {
            int bonds = n;
            faulty(() -> Edge.ofBonds(bonds), "most ^" + n + " 1;", 2);
            LiabilityMatcher x = Edge.ofBonds(n);
            Check.due("most of the last", n == 0 || Check.tell(x, "most " + (n - 1) + " 1;") == 1, true);
        }
        for (int t = 1; t <= 4; t++) {
            int dates = t;
            faulty(() -> Edge.ofDates(dates), "pay ^" + (t + 1) + " 1;", 2);
            faulty(() -> Edge.ofDates(dates), "rate ^" + (t + 1) + " 1;", 2);
            faulty(() -> Edge.ofDates(dates), "bond 0 1 ^" + (t + 1) + " 1;", 2);
            Check.due("the last DATE", Check.tell(Edge.ofDates(t), "pay " + t + " 1;rate " + t + " 1;bond 0 1 " + t + " 1;"), 3);
        }
    }

    // ---- Term 3: faults

    private static void whatCantStandThere() {
        Check.about("Term 3: 1 what can't stand there");
        String[] whole = {"dates", "1", ";", "pay", "1", "1", ";", "rate", "1", "1", ";", "bond", "1", "1", "1", "1", ";", "most", "0", "1", ";"};
        for (int at = 0; at < whole.length; at++) {
            String ahead = String.join(" ", Arrays.copyOf(whole, at)) + " ";
            String behind = " " + String.join(" ", Arrays.copyOfRange(whole, at + 1, whole.length));
            boolean isNumber = Character.isDigit(whole[at].charAt(0));
            boolean isSemicolon = whole[at].equals(";");
            for (String other : new String[] {"pay", "1", ";", "x", ",", "12345"}) {
                boolean fits = isSemicolon ? other.equals(";") : isNumber ? other.equals("1") : other.equals("pay");
                if (!fits) {
                    faulty(ahead + "^" + other + behind, 1);
                }
            }
            if (at + 1 < whole.length && (isNumber || isSemicolon)) {
                // One left out: what follows stands where it can't.
                boolean nextFits = isNumber && Character.isDigit(whole[at + 1].charAt(0));
                if (!nextFits) {
                    faulty(ahead + " ^" + String.join(" ", Arrays.copyOfRange(whole, at + 1, whole.length)), 1);
                }
            }
        }
    }

    private static void theEndsPlace() {
        Check.about("Term 3: the end's: the text's length");
        for (String text : new String[] {"dates", "pay", "rate", "bond", "pay 1", "pay 1 1", "rate 1", "rate 1 1", "bond 1", "bond 1 1",
            "bond 1 1 1", "bond 1 1 1 1", "dates 1", "bond 1 1 1 1;most", "bond 1 1 1 1;most 0", "bond 1 1 1 1;most 0 1"}) {
            faulty(text + "^", 1);
            faulty(text + " ^", 1);
            faulty(text + "\n \n^", 1);
        }
        fine("pay 1 1;   ", 1);
    }

    private static void theFirstAlongTheText() {
        Check.about("Term 3: the first along the text");
        faulty("pay 1 ^201;x", 2);
        faulty("pay ^2 201;", 2);
        faulty("pay ^2 x;", 2);
        faulty("pay ^2", 2);
        faulty("pay ^x 201;", 1);
        faulty("^x pay 2 201;", 1);
        faulty("bond ^21 41 2 201;", 2);
        faulty("bond 20 ^41 2 201;", 2);
        faulty("bond 20 40 ^2 201;", 2);
        faulty("bond 20 40 1 ^201;", 2);
        faulty("bond 20 40 1 ^201 ,", 2);
        faulty("pay 1 200 ^, pay 2 1;", 1);
        faulty("rate 1 ^7;rate 1 8;", 2);
        faulty("rate 1 6;rate 1 ^8;", 2);
    }

    private static void ofOnePlaceTheLeast() {
        Check.about("Term 3: of one place the least");
        // A number of five digits can't stand there (1) and can't be (2).
        faulty("pay ^99999 1;", 1);
        faulty("pay 1 ^00201;", 1);
        // A sixth BOND's word (3) where no word can stand (1).
        faulty(() -> Edge.ofBonds(5), "pay ^bond 1;", 1);
        faulty(() -> Edge.ofBonds(5), "pay 1 1 ^bond 1 1 1 1;", 1);
        // A word that only begins so is no sixth BOND.
        faulty(() -> Edge.ofBonds(5), "^bonds 1 1 1 1;", 1);
    }

    private static void datesAndBondsToldAhead() {
        Check.about("Term 3: a DATE, BOND that there is not, by what was told ahead of it");
        fine("dates 2;pay 2 1;", 2);
        faulty("pay ^2 1;dates 2;", 2);
        faulty("dates 3;dates 2;pay ^3 1;", 2);
        faulty("dates 4;pay 4 1;dates 3;rate ^4 1;", 2);
        fine("dates 4;bond 1 1 4 1;", 2);
        faulty("bond 1 1 ^4 1;dates 4;", 2);
        fine(BOND + "most 0 1;", 2);
        faulty("most ^0 1;" + BOND, 2);
        faulty(BOND + "most ^1 1;" + BOND, 2);
        fine(BOND + BOND + "most 1 1;", 3);
        faulty(BOND + "dates 1;most ^0 1;", 2);
        faulty(Edge::some, "dates 3;most ^0 1;", 2);
        faulty(Edge::some, "dates 2;pay ^3 1;", 2);
    }

    private static void sixthBonds() {
        Check.about("Term 3: 3 a sixth BOND, at its word.");
        fine(many(BOND, 5), 5);
        faulty(many(BOND, 5) + "^bond 1 1 1 1;", 3);
        faulty(many(BOND, 5) + " \n ^bond", 3);
        faulty(many(BOND, 5) + "^bond 21 0 9 0;", 3);
        faulty(many(BOND, 5) + "^bond x", 3);
        faulty(many(BOND, 5) + "^bond 12345", 3);
        faulty(many(BOND, 5) + "pay 1 1;^bond 1 1 1 1;", 3);
        for (int n = 0; n <= 5; n++) {
            int told = n;
            LiabilityMatcher x = Edge.ofBonds(n);
            Check.due("up to five", Check.tell(x, many(BOND, 5 - n)), 5 - n);
            Check.due("BONDS", x.count(1), 5);
            faulty(() -> Edge.ofBonds(told), many(BOND, 5 - n) + "^" + BOND, 3);
        }
        Check.due("told anew, five again", Check.tell(Edge.ofBonds(5), "dates 1;" + many(BOND, 5)), 6);
        faulty(() -> Edge.ofBonds(5), "dates 1;" + many(BOND, 5) + "^bond", 3);
        Check.due("five and most of the last", Check.tell(new LiabilityMatcher(), many(BOND, 5) + "most 4 0;"), 6);
    }
}
