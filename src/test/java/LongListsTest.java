import java.math.BigInteger;
import java.util.ArrayList;
import java.util.List;
import java.util.Random;

/**
 * Lists of up to thirty names, whose ways are too many to be written out: what is asked of them is
 * held against what follows from the shares of each one and of each two.
 */
public final class LongListsTest {
    private static final Check CHECK = new Check("LongListsTest");
    private static final Random RANDOM = new Random(11);

    public static void main(String[] args) {
        for (int k = 0; k < 300; k++) {
            Renewed x = list(k);
            ofAll(x, k);
            ofLayers(x);
            inSteps(x);
            wider(x);
        }
        CHECK.close();
    }

    /** An object that is made anew, as it was, ahead of its 513th call: beyond that nothing is promised. */
    private static final class Renewed {
        private static final int MOST_CALLS = 512;

        private final List<int[]> names = new ArrayList<>();
        private final List<int[]> answers = new ArrayList<>();
        private final String[] texts = {"", "", "", ""};
        private DrawnList x;
        private int calls;

        /** For one call. */
        DrawnList now() {
            if (x == null || calls >= MOST_CALLS) {
                make();
            }
            calls++;
            return x;
        }

        private void make() {
            x = new DrawnList();
            calls = names.size() + answers.size();
            for (int[] n : names) {
                x.name(n[0], n[1], n[2], n[3]);
            }
            for (int[] a : answers) {
                x.answer(a[0], a[1], a[2]);
            }
            for (int p = 0; p < texts.length; p++) {
                Lists.plan(x, p, texts[p]);
                calls += 1 + texts[p].length();
            }
        }

        void plan(int plan, String text) {
            texts[plan] = text;
            x = null;
            CHECK.due("can " + text + " be", now().can(plan), 1);
        }
    }

    private static Renewed list(int k) {
        Renewed x = new Renewed();
        int names = k % 3 == 0 ? 30 : 12 + RANDOM.nextInt(19);
        int layers = 1 + k % 4;
        int clusters = 1 + k % 8;
        for (int i = 0; i < names; i++) {
            x.names.add(new int[] {RANDOM.nextInt(layers), RANDOM.nextInt(clusters), 1 + RANDOM.nextInt(20), RANDOM.nextInt(3)});
            int value = k % 5 == 0 ? RANDOM.nextInt(2) * 10000 : 10000 - RANDOM.nextInt(k % 2 == 0 ? 10 : 10001);
            x.answers.add(new int[] {i, value, RANDOM.nextInt(400)});
        }
        return x;
    }

    private static BigInteger choose(int n, int k) {
        BigInteger ways = BigInteger.ONE;
        for (int i = 0; i < k; i++) {
            ways = ways.multiply(BigInteger.valueOf(n - i)).divide(BigInteger.valueOf(i + 1));
        }
        return ways;
    }

    private static Reference.Ratio share(Renewed x, int plan, int a, int b) {
        return a == b ? Reference.Ratio.of(x.now().share(plan, a, 0), x.now().share(plan, a, 1))
                : Reference.Ratio.of(x.now().both(plan, a, b, 0), x.now().both(plan, a, b, 1));
    }

    /** The spread of sums by shares: over all two names, (share of both - product of shares) y z by both shares. */
    private static Reference.Ratio spreadByShares(Renewed x, int plan) {
        int n = x.now().count(0);
        Reference.Ratio spread = Reference.Ratio.of(0, 1);
        for (int a = 0; a < n; a++) {
            for (int b = 0; b < n; b++) {
                if (x.now().share(plan, a, 0) == 0 || x.now().share(plan, b, 0) == 0) {
                    continue;
                }
                Reference.Ratio product = share(x, plan, a, a).times(share(x, plan, b, b));
                Reference.Ratio off = share(x, plan, a, b).minus(product).by(product);
                spread = spread.plus(off.times(Reference.Ratio.of((long) x.now().about(a, 4) * x.now().about(b, 4), 1)));
            }
        }
        return spread;
    }

    private static void spreadIsDue(Renewed x, int plan) {
        Reference.Ratio spread = spreadByShares(x, plan);
        CHECK.due("spread above", x.now().spread(plan, 0), spread.told(0));
        CHECK.due("spread below", x.now().spread(plan, 1), spread.told(1));
    }

    /** Shares of each two with one name add up to its share times the others in the draw, if all draws are as wide. */
    private static void sharesAddUp(Renewed x, int plan) {
        int n = x.now().count(0);
        Reference.Ratio all = Reference.Ratio.of(0, 1);
        for (int a = 0; a < n; a++) {
            all = all.plus(share(x, plan, a, a));
            Reference.Ratio others = Reference.Ratio.of(0, 1);
            for (int b = 0; b < n; b++) {
                if (b != a) {
                    others = others.plus(share(x, plan, a, b));
                }
            }
            if (x.now().width(plan, 0) == x.now().width(plan, 1)) {
                Reference.Ratio want = share(x, plan, a, a).times(Reference.Ratio.of(x.now().width(plan, 0) - 1, 1));
                CHECK.holds("shares of two add up", others.equals(want));
            }
        }
        CHECK.holds("the mean width is not below the least", all.compareTo(Reference.Ratio.of(x.now().width(plan, 0), 1)) >= 0);
        CHECK.holds("the mean width is not above the most", all.compareTo(Reference.Ratio.of(x.now().width(plan, 1), 1)) <= 0);
    }

    private static void drawsCanBeMade(Renewed x, int plan) {
        for (int k = 0; k < 10; k++) {
            int draw = x.now().lots(plan, RANDOM.nextInt());
            CHECK.due("a draw by lots can be made", x.now().makes(plan, draw), 1);
            int wide = Integer.bitCount(draw);
            CHECK.holds("it is as wide as told", wide >= x.now().width(plan, 0) && wide <= x.now().width(plan, 1));
        }
    }

    private static void ofAll(Renewed x, int k) {
        int names = x.now().count(0);
        int n = 1 + k % names;
        x.plan(0, "a" + n);
        CHECK.due("draws", x.now().draws(0), choose(names, n).longValueExact());
        spreadIsDue(x, 0);
        sharesAddUp(x, 0);
        drawsCanBeMade(x, 0);
    }

    private static void ofLayers(Renewed x) {
        StringBuilder text = new StringBuilder("l");
        BigInteger ways = BigInteger.ONE;
        int together = 0;
        for (int l = 0; l < 4; l++) {
            int most = x.now().many(0, l);
            int n = RANDOM.nextInt(most + 1);
            if (l == 3 && together + n == 0) {
                return;
            }
            together += n;
            text.append(l == 0 ? "" : ",").append(n);
            ways = ways.multiply(choose(most, n));
        }
        x.plan(1, text.toString());
        CHECK.due("draws", x.now().draws(1), ways.longValueExact());
        CHECK.due("width", x.now().width(1, 0), together);
        spreadIsDue(x, 1);
        sharesAddUp(x, 1);
        drawsCanBeMade(x, 1);
    }

    private static void inSteps(Renewed x) {
        int clusters = x.now().count(9);
        int n = 1 + RANDOM.nextInt(clusters);
        int each = 1 + RANDOM.nextInt(6);
        x.plan(2, "t" + n + "x" + each);
        BigInteger ways = BigInteger.ZERO;
        for (int set = 0; set < 256; set++) {
            if (Integer.bitCount(set) != n) {
                continue;
            }
            BigInteger within = BigInteger.ONE;
            for (int c = 0; c < 8; c++) {
                if ((set >> c & 1) == 1) {
                    int here = x.now().many(1, c);
                    within = here == 0 ? BigInteger.ZERO : within.multiply(choose(here, Math.min(each, here)));
                }
            }
            ways = ways.add(within);
        }
        CHECK.due("draws", x.now().draws(2), ways.longValueExact());
        sharesAddUp(x, 2);
        drawsCanBeMade(x, 2);
    }

    private static void wider(Renewed x) {
        for (int a = 0; a < 2; a++) {
            for (int b = 0; b < 2; b++) {
                if (x.now().can(a) == 1 && x.now().can(b) == 1) {
                    Reference.Ratio one = Reference.Ratio.of(x.now().spread(a, 0), x.now().spread(a, 1));
                    Reference.Ratio other = Reference.Ratio.of(x.now().spread(b, 0), x.now().spread(b, 1));
                    CHECK.due("wider", x.now().wider(a, b), one.compareTo(other));
                }
            }
        }
    }
}
