import java.util.NoSuchElementException;
import java.util.Random;

/** Long runs of calls by chance (always the same ones), each answer against that of the model. */
public final class RandomTest {
    private static final int[] ODD = {Integer.MIN_VALUE, Integer.MAX_VALUE, -2, -1, 0, 1, 2, 3, 4, 5, 6, 7, 9, 10, 11, 12, 13,
        14, 15, 16, 20, 21, 40, 41, 99, 100, 200, 201, 300, 301, 9999, 10000, -10, -2147483638};
    private static final String[] PIECES = {"dates", "pay", "rate", "bond", "most", ";", ";", ";", " ", "\n", "\t", "A", "`", "{", "/",
        ":", "0", "1", "2", "3", "4", "5", "12", "200", "00001", "0001", "99999", "x", "paybond", "\u0000", "\u00e9", ",", "-1"};

    private final Random random;
    private final LiabilityMatcher x = new LiabilityMatcher();
    private final Model m = new Model();
    private final StringBuilder story = new StringBuilder();
    private final int style;
    private int calls = 0;

    private RandomTest(long seed, int style) {
        random = new Random(seed);
        this.style = style;
    }

    public static void main(String[] args) {
        int runs = args.length > 0 ? Integer.parseInt(args[0]) : 450;
        long first = args.length > 1 ? Long.parseLong(args[1]) : 1;
        for (int i = 0; i < runs; i++) {
            new RandomTest(first + i, i % 5).go();
        }
        Check.finish();
    }

    private void go() {
        // Behind the 512th call answers are free; a step has fewer than 24 calls.
        while (calls <= 512 - 24) {
            int before = Check.wrongSoFar();
            step();
            if (Check.wrongSoFar() != before) {
                System.out.println(story);
                return;
            }
        }
    }

    private int n(int bound) {
        return random.nextInt(bound);
    }

    private boolean odd() {
        return n(25) == 0;
    }

    /** Style 4 keeps to the ends of each interval and what is next to them: the numbers grow longest there. */
    private int pick(int low, int high) {
        if (odd()) {
            return ODD[n(ODD.length)];
        }
        if (style == 4) {
            int off = n(4) == 0 && high > low ? 1 : 0;
            return n(4) == 0 ? low + off : high - off;
        }
        return low + n(high - low + 1);
    }

    private int date() {
        return pick(1, m.count(0));
    }

    private int bond() {
        return pick(0, Math.max(0, m.count(1) - 1));
    }

    private void due(String call, long got, long want) {
        calls++;
        story.append(call).append(" -> ").append(want).append('\n');
        Check.due(call, got, want);
    }

    private void due(String call, boolean got, boolean want) {
        due(call, got ? 1 : 0, want ? 1 : 0);
    }

    private void step() {
        int k = n(100);
        if (k < 3) {
            int t = style == 0 ? pick(1, 4) : pick(3, 4);
            due("dates " + t, x.dates(t), m.dates(t));
        } else if (k < 36) {
            change(n(12));
        } else if (k < 42) {
            text();
        } else if (k < 60) {
            held(n(7));
        } else if (k < 80) {
            bestCover(n(6));
        } else if (k < 84) {
            inLots();
        } else {
            looks(n(6));
        }
    }

    private void change(int k) {
        if (k < 3) {
            int d = date();
            int v = n(6) == 0 ? 0 : pick(0, 200);
            due("pay " + d + " " + v, x.pay(d, v), m.pay(d, v));
        } else if (k < 5) {
            int d = date();
            int v = style == 2 ? n(2) : pick(0, 6);
            due("rate " + d + " " + v, x.rate(d, v), m.rate(d, v));
        } else if (k < 9) {
            comeBond();
        } else if (k < 10) {
            int b = bond();
            int v = pick(0, 12);
            due("most " + b + " " + v, x.most(b, v), m.most(b, v));
        } else if (k < 11) {
            int b = bond();
            int d = pick(0, 3);
            due("call " + b + " " + d, x.call(b, d), m.call(b, d));
        } else if (n(3) == 0) {
            int b = bond();
            due("drop " + b, x.drop(b), m.drop(b));
        }
    }

    /** Prices by chance alone make most bonds worthless, so some styles set them near what comes back. */
    private void comeBond() {
        int c = style == 2 ? n(3) : pick(0, 20);
        int f = style == 2 ? 1 + n(6) : pick(1, 40);
        int e = date();
        int all = Math.max(1, Math.min(200, c * Math.max(1, Math.min(4, e)) + f));
        int p = style == 0 ? pick(1, 200) : style == 1 ? pick((all + 1) / 2, all) : style == 2 ? Math.max(1, all - n(3)) : pick(Math.max(1, all * 3 / 4), all);
        due("bond " + c + " " + f + " " + e + " " + p, x.bond(c, f, e, p), m.bond(c, f, e, p));
    }

    private String statement() {
        switch (n(8)) {
            case 0:
                return n(4) == 0 ? "dates " + (1 + n(4)) : "";
            case 1:
            case 2:
                return "pay " + date() + " " + pick(0, 200);
            case 3:
                return "rate " + date() + "\n" + pick(0, 6);
            case 4:
                return "most" + bond() + " " + pick(0, 12);
            default:
                int c = pick(0, 20);
                int f = pick(1, 40);
                int e = date();
                return "bond " + c + " " + f + " " + e + " " + Math.max(1, Math.min(200, (c * (e & 3) + f) * (50 + n(60)) / 100));
        }
    }

    private void text() {
        StringBuilder s = new StringBuilder();
        int statements = n(8);
        for (int i = 0; i < statements; i++) {
            String one = statement();
            s.append(one.isEmpty() ? "" : n(3) == 0 ? one + " ;\n" : one + ";");
        }
        int spoiled = n(3) == 0 ? 1 + n(2) : 0;
        for (int i = 0; i < spoiled; i++) {
            int at = n(s.length() + 1);
            s.replace(at, Math.min(s.length(), at + n(3)), PIECES[n(PIECES.length)]);
        }
        put(s.toString());
        due("tell", x.tell(), m.tell());
        due("fault", x.fault(), m.fault());
        due("count 2", x.count(2), m.count(2));
    }

    private void put(String s) {
        int start = m.count(2);
        for (int from = 0; from < s.length(); from += 20) {
            int[] f = new int[5];
            for (int i = 0; i < 20; i++) {
                f[i / 4] = f[i / 4] << 8 | (from + i < s.length() ? s.charAt(from + i) : n(256));
            }
            due("feed " + f[0] + " " + f[1] + " " + f[2] + " " + f[3] + " " + f[4],
                x.feed(f[0], f[1], f[2], f[3], f[4]), m.feed(f[0], f[1], f[2], f[3], f[4]));
        }
        int end = n(20) == 0 ? pick(0, 300) : start + s.length();
        due("end " + end, x.end(end), m.end(end));
    }

    private void held(int k) {
        boolean u = random.nextBoolean();
        if (k == 0) {
            int b = bond();
            int v = n(2) == 0 ? pick(0, 4) : pick(0, 99);
            due("hold " + b + " " + v, x.hold(b, v), m.hold(b, v));
        } else if (k == 1) {
            int c = n(2) == 0 ? pick(0, 300) : pick(0, 9999);
            due("cash " + c, x.cash(c), m.cash(c));
        } else if (k == 2) {
            due("fails", x.fails(), m.fails());
        } else if (k == 3) {
            int t = pick(0, m.count(0));
            due("balance " + t + " " + u, x.balance(t, u), m.balance(t, u));
        } else if (k == 4) {
            due("need " + u, x.need(u), m.need(u));
        } else {
            int d = pick(0, m.count(0));
            due("lack " + d + " " + u, x.lack(d, u), m.lack(d, u));
        }
    }

    private void bestCover(int k) {
        boolean u = random.nextBoolean();
        int b = bond();
        if (k == 0) {
            due("cost " + u, x.cost(u), m.cost(u));
        } else if (k == 1) {
            due("part " + b + " " + u, x.part(b, u), m.part(b, u));
        } else if (k == 2) {
            int t = pick(0, m.count(0));
            due("surplus " + t + " " + u, x.surplus(t, u), m.surplus(t, u));
        } else if (k == 3) {
            int d = date();
            due("multiplier " + d + " " + u, x.multiplier(d, u), m.multiplier(d, u));
        } else if (k == 4) {
            due("dear " + b + " " + u, x.dear(b, u), m.dear(b, u));
        } else {
            due("without " + b + " " + u, x.without(b, u), m.without(b, u));
        }
    }

    private void inLots() {
        boolean u = random.nextBoolean();
        for (int b = -1; b <= 5; b++) {
            due("lots " + b, x.lots(b), m.lots(b));
        }
        int w = pick(0, 1);
        due("lotsCost " + w + " " + u, x.lotsCost(w, u), m.lotsCost(w, u));
        if (n(3) == 0) {
            due("take", x.take(), m.take());
        }
    }

    private void looks(int k) {
        if (k == 0) {
            int w = pick(0, 3);
            due("count " + w, x.count(w), m.count(w));
        } else if (k == 1) {
            int d = date();
            int w = pick(0, 1);
            due("date " + d + " " + w, x.date(d, w), m.date(d, w));
        } else if (k == 2) {
            due("fault", x.fault(), m.fault());
        } else {
            int b = bond();
            int w = n(2) == 0 ? pick(0, 7) : pick(9, 15);
            due("told " + b + " " + w, toldOf(true, b, w), toldOf(false, b, w));
        }
    }

    private long toldOf(boolean program, int b, int w) {
        try {
            return program ? x.told(b, w) : m.told(b, w);
        } catch (NoSuchElementException e) {
            return Long.MIN_VALUE;
        }
    }
}
