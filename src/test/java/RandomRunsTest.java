import java.util.Random;

/**
 * Runs of calls by a fixed seed, each call made of the program and of the reference. Ordinary
 * arguments mostly, with wrong ones among them. Beyond 512 calls of an object nothing is promised,
 * so what a run wants to know for its next call it asks of the reference.
 */
public final class RandomRunsTest {
    private static final int MOST_CALLS = 512;
    /** More than any step makes. */
    private static final int CALLS_OF_A_STEP = 40;
    private static final int[] ODD = {Integer.MIN_VALUE, Integer.MAX_VALUE, -1, -2, 0, 1, 2, 3, 4, 5, 30, 31, 32, 90, 91, 100, 1 << 30};

    private final Check check;
    private final Random random;
    private final DrawnList x = new DrawnList();
    private final Reference r = new Reference();
    private final int mostNames;
    private final int run;
    private int calls;

    private RandomRunsTest(Check check, int run) {
        this.check = check;
        this.run = run;
        random = new Random(run);
        // Long lists have too many ways to write out, but for the plans that typePlan() then takes.
        mostNames = run % 4 == 0 ? 30 : 3 + run % 6;
    }

    public static void main(String[] args) {
        Check check = new Check("RandomRunsTest");
        for (int run = 1; run <= 1000 && check.failures() == 0; run++) {
            RandomRunsTest test = new RandomRunsTest(check, run);
            test.go();
            check.holds("run " + run + " makes " + test.calls + " calls", test.calls <= MOST_CALLS);
        }
        check.close();
    }

    private void go() {
        if (run % 3 != 0) {
            for (int i = 0; i < mostNames; i++) {
                addName();
            }
        }
        while (calls <= MOST_CALLS - CALLS_OF_A_STEP && check.failures() == 0) {
            call(random.nextInt(34));
        }
    }

    private void due(String what, long got, long want) {
        calls++;
        check.due("run " + run + " call " + calls + ": " + what, got, want);
    }

    private int upTo(int most) {
        return random.nextInt(40) == 0 ? ODD[random.nextInt(ODD.length)] : random.nextInt(most + 1);
    }

    private int names() {
        return r.count(0);
    }

    private int someName() {
        return upTo(Math.max(0, names() - 1));
    }

    private int someDraw(int plan) {
        int kind = random.nextInt(12);
        if (kind < 9 && r.can(plan) == 1) {
            return r.lots(plan, random.nextInt());
        }
        if (kind == 9) {
            return random.nextInt();
        }
        return random.nextInt() & (1 << names()) - 1;
    }

    private void addName() {
        if (names() >= mostNames && (mostNames < 30 || random.nextInt(4) > 0)) {
            return;
        }
        int layer = upTo(3);
        int cluster = mostNames == 30 ? upTo(7) : upTo(3 + run % 5);
        int size = run % 5 == 0 ? 1 + upTo(2) : 1 + upTo(19);
        int mark = upTo(2);
        due("name", x.name(layer, cluster, size, mark), r.name(layer, cluster, size, mark));
    }

    private String someText() {
        int kind = random.nextInt(10);
        int n = Math.max(1, names());
        if (mostNames == 30) {
            String[] few = {"a1", "a01", "a2", "l1,1,0,0", "l1,0,1,1", "l0,0,0,2", "t1x1", "t2x1", "t1x2", "t99x1"};
            return kind < 4 ? few[random.nextInt(few.length)]
                    : kind < 7 ? "e" + random.nextInt(34) : "z" + (random.nextBoolean() ? random.nextInt(8) : random.nextInt(100));
        }
        switch (kind) {
            case 0:
            case 1:
                return "a" + random.nextInt(n + 2);
            case 2:
            case 3:
                return "l" + share(0) + "," + share(1) + "," + share(2) + "," + share(3);
            case 4:
                return "e" + random.nextInt(32);
            case 5:
            case 6:
                return "z" + (random.nextInt(3) == 0 ? random.nextInt(100) : random.nextInt(10));
            case 7:
            case 8:
                return "t" + random.nextInt(r.count(9) + 2) + "x" + random.nextInt(5);
            default:
                return brokenText();
        }
    }

    private int share(int layer) {
        return random.nextInt(r.many(0, layer) + (random.nextInt(8) == 0 ? 2 : 1));
    }

    private String brokenText() {
        String signs = "alezt0123456789,x \u00ff";
        StringBuilder text = new StringBuilder();
        text.append("alezt".charAt(random.nextInt(5)));
        int length = random.nextInt(14);
        for (int i = 0; i < length; i++) {
            text.append(random.nextInt(3) == 0 ? signs.charAt(random.nextInt(signs.length())) : i % 2 == 0 ? '1' : ',');
        }
        return mostNames == 30 ? "?" + text : text.toString();
    }

    private void typePlan() {
        int plan = random.nextInt(4);
        if (random.nextInt(10) > 0) {
            due("wipe", x.wipe(plan), r.wipe(plan));
        }
        String text = someText();
        for (int i = 0; i < text.length(); i++) {
            due("type", x.type(plan, text.charAt(i)), r.type(plan, text.charAt(i)));
            due("fault", x.fault(plan), r.fault(plan));
        }
    }

    private void call(int which) {
        int plan = upTo(3);
        int what = upTo(1);
        int draw = someDraw(plan);
        switch (which) {
            case 0 -> addName();
            case 1, 2, 3 -> typePlan();
            case 4 -> {
                int a = someName();
                int w = upTo(4);
                due("about(" + a + ", " + w + ")", x.about(a, w), r.about(a, w));
            }
            case 5, 6, 7 -> tell();
            case 8 -> {
                int day = random.nextInt(3) > 0 ? 399 : upTo(400);
                due("asOf", x.asOf(day), r.asOf(day));
            }
            case 9 -> {
                int w = upTo(3);
                int of = upTo(7);
                due("many(" + w + ", " + of + ")", x.many(w, of), r.many(w, of));
            }
            case 10 -> due("fault", x.fault(plan), r.fault(plan));
            case 11 -> due("can", x.can(plan), r.can(plan));
            case 12 -> due("draws(" + plan + ")", x.draws(plan), r.draws(plan));
            case 13 -> {
                int a = someName();
                due("share(" + plan + ", " + a + ", " + what + ")", x.share(plan, a, what), r.share(plan, a, what));
            }
            case 14 -> {
                int a = someName();
                int b = someName();
                due("both(" + plan + ", " + a + ", " + b + ", " + what + ")", x.both(plan, a, b, what), r.both(plan, a, b, what));
            }
            case 15 -> due("width(" + plan + ", " + what + ")", x.width(plan, what), r.width(plan, what));
            case 16 -> {
                int seed = random.nextInt();
                due("lots(" + plan + ", " + seed + ")", x.lots(plan, seed), r.lots(plan, seed));
            }
            case 17 -> due("makes(" + plan + ", " + draw + ")", x.makes(plan, draw), r.makes(plan, draw));
            case 18 -> due("sum(" + plan + ", " + draw + ", " + what + ")", x.sum(plan, draw, what), r.sum(plan, draw, what));
            case 19 -> due("silent(" + draw + ")", x.silent(draw), r.silent(draw));
            case 20 -> due("spread(" + plan + ", " + what + ")", x.spread(plan, what), r.spread(plan, what));
            case 21 -> {
                int other = upTo(3);
                due("wider(" + plan + ", " + other + ")", x.wider(plan, other), r.wider(plan, other));
            }
            case 22 -> due("edge(" + plan + ", " + what + ")", x.edge(plan, what), r.edge(plan, what));
            case 23 -> know();
            case 24 -> {
                int rounds = upTo(30);
                int a = someName();
                due("weight(" + plan + ", " + draw + ", " + rounds + ", " + a + ")",
                        x.weight(plan, draw, rounds, a), r.weight(plan, draw, rounds, a));
            }
            case 25 -> {
                int rounds = upTo(30);
                due("led(" + plan + ", " + draw + ", " + rounds + ", " + what + ")",
                        x.led(plan, draw, rounds, what), r.led(plan, draw, rounds, what));
            }
            case 26 -> {
                int c = upTo(7);
                int price = random.nextInt(3) == 0 ? 0 : upTo(100);
                due("cost", x.cost(c, price), r.cost(c, price));
            }
            case 27 -> {
                int price = random.nextInt(2) == 0 ? upTo(30) : upTo(800);
                int w = upTo(2);
                due("again(" + plan + ", " + draw + ", " + price + ", " + w + ")",
                        x.again(plan, draw, price, w), r.again(plan, draw, price, w));
            }
            case 28, 29, 30, 31 -> onSheets();
            case 32 -> {
                int w = upTo(9);
                due("count(" + w + ")", x.count(w), r.count(w));
            }
            default -> due("digest", x.digest(), r.digest());
        }
    }

    private void tell() {
        if (random.nextInt(4) == 0 && names() > 0) {
            // Spreads want all values.
            for (int i = 0; i < names(); i++) {
                int v = random.nextInt(10001);
                due("answer", x.answer(i, v, 399), r.answer(i, v, 399));
            }
            return;
        }
        int a = someName();
        int v = upTo(10001) - 1;
        int day = random.nextInt(4) > 0 ? upTo(4) : upTo(399);
        due("answer", x.answer(a, v, day), r.answer(a, v, day));
    }

    private void know() {
        int w = upTo(1);
        int of = upTo(3);
        int sum = random.nextInt(2) == 0 ? upTo(30000) : upTo(9);
        due("known", x.known(w, of, sum), r.known(w, of, sum));
    }

    private void onSheets() {
        int s = upTo(3);
        int t = upTo(3);
        int form = upTo(2);
        int i = upTo(12);
        int j = upTo(12);
        int n = upTo(14) - (random.nextInt(20) == 0 ? 4 : 0);
        switch (random.nextInt(8)) {
            case 0 -> {
                int length = random.nextInt(4) == 0 ? upTo(92) : n;
                due("sheet", x.sheet(s, form, length), r.sheet(s, form, length));
            }
            case 1 -> {
                if (random.nextInt(3) == 0) {
                    due("lose", x.lose(s), r.lose(s));
                }
            }
            case 2, 3 -> {
                int v = random.nextInt(3) == 0 ? random.nextInt() : random.nextInt(4);
                due("put", x.put(s, form, i, v), r.put(s, form, i, v));
            }
            case 4 -> due("get", x.get(s, form, i), r.get(s, form, i));
            case 5 -> due("copy(" + s + ", " + i + ", " + t + ", " + j + ", " + n + ")", x.copy(s, i, t, j, n), r.copy(s, i, t, j, n));
            case 6 -> {
                int draw = someDraw(random.nextInt(4));
                due("write(" + s + ", " + draw + ")", x.write(s, draw), r.write(s, draw));
            }
            default -> {
                // A long list that grows by reading would get more ways than can be written out.
                if (names() + 4 <= mostNames) {
                    due("read", x.read(s), r.read(s));
                }
            }
        }
        due("latest finding", x.count(8), r.count(8));
    }
}
