import java.util.function.Consumer;
import java.util.function.ToLongFunction;

/** An answer is that of what is told now: asked first of all, or again when something has changed. */
public final class AskedAgainTest {
    private static final String[] PLANS = {
        "dates 1;",
        "dates 1;pay 1 200;rate 1 6;bond 0 40 1 25;bond 20 40 1 41;",
        "dates 2;pay 1 100;pay 2 100;bond 0 20 1 19;bond 5 20 2 24;bond 0 40 2 35;",
        "dates 2;pay 2 60;rate 1 1;rate 2 5;bond 3 30 1 29;",
        "dates 3;pay 1 7;pay 2 50;pay 3 90;rate 3 2;bond 2 40 3 30;bond 9 9 2 17;bond 0 30 1 28;bond 7 1 3 18;",
        "dates 3;pay 3 199;rate 2 6;",
        "dates 4;pay 1 60;pay 2 70;pay 3 80;pay 4 90;rate 2 1;rate 4 3;bond 4 40 4 40;bond 6 30 3 38;bond 8 20 2 30;bond 1 40 1 37;bond 0 40 4 31;",
        "dates 4;pay 4 200;pay 1 1;bond 20 40 4 77;bond 0 9 4 5;"};

    public static void main(String[] args) {
        eachAskedFirst();
        anotherPlan();
        changesBetween();
        takeOfFive();
        Check.finish();
    }

    private static void first(String what, ToLongFunction<LiabilityMatcher> ask, long want) {
        Check.due(what + " asked first", ask.applyAsLong(Edge.told(PLANS[2])), want);
    }

    private static void eachAskedFirst() {
        Check.about("Promises 16 to 23: each by itself");
        first("cost", x -> x.cost(false), 172);
        first("cost under", x -> x.cost(true), 1);
        first("part", x -> x.part(1, false), 4);
        first("part under", x -> x.part(1, true), 1);
        first("surplus", x -> x.surplus(2, false), 0);
        first("surplus under", x -> x.surplus(2, true), 1);
        first("multiplier", x -> x.multiplier(2, false), 77);
        first("multiplier under", x -> x.multiplier(2, true), 100);
        first("dear", x -> x.dear(2, false), 21);
        first("dear under", x -> x.dear(2, true), 5);
        first("without", x -> x.without(1, false), 365);
        first("without under", x -> x.without(1, true), 2);
        first("lots", x -> x.lots(0), 4);
        first("lotsCost", x -> x.lotsCost(0, false), 172);
        first("lotsCost under", x -> x.lotsCost(0, true), 1);
        first("take", x -> x.take(), 0);
        first("fails", x -> x.fails(), 1);
        first("need", x -> x.need(false), 200);
        first("need under", x -> x.need(true), 1);
        first("lack", x -> x.lack(1, false), 200);
        first("balance", x -> x.balance(0, true), 1);
    }

    private static void anotherPlan() {
        Check.about("Promise 2: all is told anew");
        for (String before : PLANS) {
            for (String text : PLANS) {
                LiabilityMatcher x = Edge.told(before);
                Edge.answers(x);
                Check.tell(x, text);
                Edge.same("'" + text + "' behind '" + before + "'", x, Edge.told(text));
            }
        }
    }

    private static void changed(String what, Consumer<LiabilityMatcher> change) {
        for (String text : PLANS) {
            LiabilityMatcher x = Edge.told(text);
            Edge.answers(x);
            change.accept(x);
            LiabilityMatcher fresh = Edge.told(text);
            change.accept(fresh);
            Edge.same(what + " behind '" + text + "'", x, fresh);
        }
    }

    private static void changesBetween() {
        Check.about("Promises 3 to 8, 24 to 26: from now on");
        for (int i = 0; i < 5; i++) {
            int n = i;
            changed("drop " + n, x -> x.drop(n));
            changed("call " + n, x -> x.call(n, 1));
            changed("most " + n, x -> x.most(n, 1));
            changed("hold " + n, x -> x.hold(n, 2));
            changed("pay " + n, x -> x.pay(n, 33));
            changed("rate " + n, x -> x.rate(n, 4));
        }
        changed("bond", x -> x.bond(5, 35, 1, 20));
        changed("cash", x -> x.cash(55));
        changed("take", x -> x.take());
        changed("dates", x -> x.dates(3));
        changed("a faulty text", x -> Check.tell(x, "pay 1 5;bond 0 40 1 1;,"));
    }

    private static void takeOfFive() {
        Check.about("Promise 26: IN LOTS is HELD: five BONDS");
        LiabilityMatcher x = Edge.told("pay 1 200;bond 0 3 1 1;bond 0 3 1 1;bond 0 3 1 1;bond 0 3 1 1;bond 0 3 1 1;");
        Check.due("take", x.take(), 50);
        for (int bond = 0; bond < 5; bond++) {
            Check.due("HELD of " + bond, x.told(bond, 6), 10);
        }
        Check.due("fails", x.fails(), 0);
        Check.due("balance", x.balance(1, false), x.balance(1, true), 0, 1);
    }
}
