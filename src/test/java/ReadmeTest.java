import java.nio.charset.StandardCharsets;
import java.nio.file.Files;
import java.nio.file.Path;
import java.util.ArrayList;
import java.util.List;

/** The calls of README.md, in its order: each answers what stands behind it there. */
public final class ReadmeTest {
    private static final LiabilityMatcher x = new LiabilityMatcher();
    /** Each call that README.md shows with an answer, as it stands there: the call, then the answer. */
    private static final List<String[]> shown = new ArrayList<>();
    private static int next = 0;

    public static void main(String[] args) throws Exception {
        for (String line : Files.readAllLines(Path.of("README.md"), StandardCharsets.UTF_8)) {
            if (line.startsWith("x.")) {
                int answer = line.indexOf("// ");
                shown.add(new String[] {line.substring(0, line.indexOf(';')), line.substring(answer + 3).split("[: ]")[0]});
            }
        }
        told();
        bestCover();
        lotsAndHeld();
        text();
        Check.due("calls that README.md shows", next, shown.size());
        Check.finish();
    }

    private static void due(String call, Object got) {
        String[] there = next < shown.size() ? shown.get(next) : new String[] {"", ""};
        next++;
        Check.due("README.md shows '" + there[0] + "', this is " + call, there[0].equals(call), true);
        Check.due(call + " is " + got + ", README.md says " + there[1], there[1].equals(String.valueOf(got)), true);
    }

    private static void told() {
        due("x.dates(2)", x.dates(2));
        due("x.pay(1, 100)", x.pay(1, 100));
        due("x.pay(2, 100)", x.pay(2, 100));
        due("x.rate(2, 1)", x.rate(2, 1));
        due("x.bond(0, 20, 1, 19)", x.bond(0, 20, 1, 19));
        due("x.bond(5, 20, 2, 24)", x.bond(5, 20, 2, 24));
    }

    private static void bestCover() {
        due("x.cost(false)", x.cost(false));
        due("x.cost(true)", x.cost(true));
        due("x.part(0, false)", x.part(0, false));
        due("x.surplus(1, false)", x.surplus(1, false));
        due("x.multiplier(1, false)", x.multiplier(1, false));
        due("x.multiplier(1, true)", x.multiplier(1, true));
        due("x.dear(1, false)", x.dear(1, false));
        due("x.without(1, false)", x.without(1, false));
        due("x.without(1, true)", x.without(1, true));
    }

    private static void lotsAndHeld() {
        due("x.lots(0)", x.lots(0));
        due("x.lotsCost(0, false)", x.lotsCost(0, false));
        due("x.take()", x.take());
        due("x.call(1, 1)", x.call(1, 1));
        due("x.balance(1, false)", x.balance(1, false));
        due("x.fails()", x.fails());
        due("x.lack(0, false)", x.lack(0, false));
        due("x.lack(0, true)", x.lack(0, true));
        due("x.hold(0, 5)", x.hold(0, 5));
        due("x.cash(10)", x.cash(10));
        due("x.fails()", x.fails());
        due("x.need(false)", x.need(false));
    }

    private static void text() {
        due("x.feed(0x70617920, 0x32203930, 0x3b6d6f73, 0x74203020, 0x333b2020)",
            x.feed(0x70617920, 0x32203930, 0x3b6d6f73, 0x74203020, 0x333b2020));
        due("x.end(18)", x.end(18));
        due("x.tell()", x.tell());
        due("x.fault()", x.fault());
        due("x.date(2, 0)", x.date(2, 0));
        due("x.told(0, 4)", x.told(0, 4));
    }
}
