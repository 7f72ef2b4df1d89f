/** Boundary cases of weights and of who is asked again: parts 4 and 5, promises 23 to 27, sentence by sentence. */
public final class BoundaryWeightsTest extends Cases {
    public static void main(String[] args) {
        new BoundaryWeightsTest().run();
    }

    void all() {
        weightsBegin();
        knownSums();
        rounds();
        parts();
        misses();
        ledSums();
        known();
        weight();
        led();
        costs();
        gains();
        withinAPrice();
        best();
        cost();
        again();
    }

    /** The object itself, with the text of plan 0 and all its names told 1. */
    private static DrawnList toldOne(DrawnList x, String text) {
        for (int i = 0; i < x.count(0); i++) {
            x.answer(i, 1, 0);
        }
        return Lists.with(x, text);
    }

    private void weights(DrawnList x, int draw, int rounds, int... want) {
        for (int name = 0; name < want.length; name++) {
            due("weight of " + name + " behind " + rounds, x.weight(0, draw, rounds, name), want[name]);
        }
    }

    private void weightsBegin() {
        String words = "each NAME of a DRAW that has a VALUE begins with a WEIGHT of 1000 by its SHARE in a PLAN, cut";
        of("Terms 4", words, "shares of 1, of 2/3, of 7/10, of 3/10", () -> {
            weights(toldOne(Lists.alike(2), "a2"), 3, 0, 1000, 1000);
            weights(toldOne(Lists.alike(3), "a2"), 3, 0, 1500, 1500, 0);
            weights(toldOne(Lists.sized(7, 3), "z1"), 1, 0, 1428, 0);
            weights(toldOne(Lists.sized(7, 3), "z1"), 2, 0, 0, 3333);
        });
        of("Terms 4", words, "the least share", () -> {
            DrawnList x = new DrawnList();
            for (int i = 0; i < 30; i++) {
                x.name(0, 0, i == 29 ? 1 : 20, 0);
            }
            Lists.plan(x, 0, "z1");
            x.answer(29, 10000, 0);
            due("weight", x.weight(0, 1 << 29, 0, 29), 581000);
            due("led sum", x.led(0, 1 << 29, 0, 1), 5810000);
        });
        of("Terms 4", words, "without a value, with the value 0", () -> {
            DrawnList x = Lists.with(Lists.told(Lists.alike(3), 0, NONE), "a3");
            weights(x, 7, 0, 1000, 0, 0);
        });
        of("Terms 4", words, "as of a day", () -> {
            DrawnList x = Lists.with(Lists.alike(1), "a1");
            x.answer(0, 5, 9);
            x.asOf(8);
            weights(x, 1, 0, 0);
            x.asOf(9);
            weights(x, 1, 0, 1000);
        });
        of("Terms 4", words, "not in the draw", () -> weights(toldOne(Lists.alike(3), "a1"), 2, 0, 0, 3000, 0));
    }

    private void knownSums() {
        String words = "KNOWN SUMS are told of LAYERS and of MARKS (0 to 30000; 0 at first)";
        of("Terms 4", words, "0 at first, of each layer and mark", () -> {
            DrawnList x = new DrawnList();
            for (int l = 0; l < 4; l++) {
                due("layer " + l, x.known(0, l, l + 1), 0);
            }
            for (int m = 0; m < 3; m++) {
                due("mark " + m, x.known(1, m, m + 10), 0);
            }
            for (int l = 0; l < 4; l++) {
                due("layer " + l + " is its own", x.known(0, l, 0), l + 1);
            }
            for (int m = 0; m < 3; m++) {
                due("mark " + m + " is its own", x.known(1, m, 0), m + 10);
            }
        });
        of("Terms 4", words, "0 and 30000 are taken", () -> {
            DrawnList x = new DrawnList();
            for (int what = 0; what < 2; what++) {
                due("30000", x.known(what, 0, 30000), 0);
                due("0", x.known(what, 0, 0), 30000);
                due("0 was taken", x.known(what, 0, 1), 0);
            }
        });
        for (int beyond : new int[] {-1, 30001, LOW, HIGH}) {
            of("Terms 4", words, beyond + " is BAD", () -> refused(BAD, "known", x -> x.known(0, 0, beyond), x -> x.known(1, 1, beyond)));
        }
        of("Terms 4", words, "at first: a round leads all to 0", () -> {
            DrawnList x = toldOne(Lists.alike(2), "a2");
            weights(x, 3, 0, 1000, 1000);
            weights(x, 3, 1, 0, 0);
            due("miss at first", x.led(0, 3, 0, 0), 4000);
            due("miss", x.led(0, 3, 1, 0), 0);
        });
    }

    /** Weights that come nearer with each round: two marks in layer 0, one name of the first mark in layer 1. */
    private static DrawnList slow() {
        DrawnList x = new DrawnList();
        x.name(0, 0, 1, 0);
        x.name(0, 0, 1, 1);
        x.name(1, 0, 1, 0);
        Lists.told(x, 10000, 1, 9999);
        for (int k = 0; k < 2; k++) {
            x.known(0, k, 30000);
            x.known(1, k, 30000);
        }
        return Lists.with(x, "a3");
    }

    private void rounds() {
        String words = "A ROUND: first of each LAYER with WEIGHTS above 0 together these become PARTS of its KNOWN SUM by them; then of each MARK likewise.";
        of("Terms 4", words, "none, one, two, twenty-nine, thirty", () -> {
            DrawnList x = slow();
            weights(x, 7, 0, 1000, 1000, 1000);
            weights(x, 7, 1, 10000, 30000, 20000);
            weights(x, 7, 2, 6000, 30000, 24000);
            weights(x, 7, 3, 4286, 30000, 25714);
            weights(x, 7, 29, 509, 30000, 29491);
            weights(x, 7, 30, 493, 30000, 29507);
            due("miss behind 29", x.led(0, 7, 29, 0), 1018);
            due("miss behind 30", x.led(0, 7, 30, 0), 986);
            due("led sum behind 1", x.led(0, 7, 1, 1), 300010);
            due("led sum behind 30", x.led(0, 7, 30, 1), 300000);
        });
        of("Terms 4", words, "layers first: what marks say stands behind a round", () -> {
            DrawnList x = toldOne(Lists.alike(2), "a2");
            x.known(0, 0, 100);
            x.known(1, 0, 50);
            weights(x, 3, 1, 25, 25);
            weights(x, 3, 2, 25, 25);
        });
        of("Terms 4", words, "a layer led to 0 is none with weights any more", () -> {
            DrawnList x = toldOne(Lists.alike(2), "a2");
            x.known(1, 0, 50);
            weights(x, 3, 1, 0, 0);
            x.known(0, 0, 100);
            x.known(1, 0, 0);
            weights(x, 3, 1, 0, 0);
            weights(x, 3, 2, 0, 0);
        });
        of("Terms 4", words, "weights that are 1 together are above 0", () -> {
            DrawnList x = toldOne(Lists.alike(2), "a2");
            x.known(0, 0, 1);
            x.known(1, 0, 7);
            weights(x, 3, 1, 7, 0);
            x.known(0, 0, 7);
            x.known(1, 0, 1);
            weights(x, 3, 1, 1, 0);
            weights(x, 3, 2, 1, 0);
            due("miss", x.led(0, 3, 2, 0), 6);
        });
        of("Terms 4", words, "layers and marks without weights", () -> {
            DrawnList x = Lists.with(Lists.clustered(4), "a4");
            x.answer(0, 1, 0);
            for (int k = 0; k < 4; k++) {
                x.known(0, k, 9);
                x.known(1, k, 9);
            }
            weights(x, 15, 1, 9, 0, 0, 0);
            weights(x, 15, 30, 9, 0, 0, 0);
            due("miss", x.led(0, 15, 30, 0), 27 + 18);
        });
        of("Terms 4", words, "unlike shares, the last layer and the last mark", () -> {
            DrawnList x = new DrawnList();
            int[][] names = {{0, 0}, {0, 1}, {1, 0}, {1, 1}, {2, 2}, {0, 0}, {1, 0}, {1, 0}};
            for (int[] n : names) {
                x.name(n[0], 0, 1, n[1]);
            }
            Lists.told(x, 100, 200, 300, 400, 500);
            Lists.plan(x, 0, "l2,2,1,0");
            int[] known = {500, 300, 0, 40, 410, 390, 7};
            for (int k = 0; k < 7; k++) {
                x.known(k / 4, k % 4, known[k]);
            }
            weights(x, 31, 0, 1500, 1500, 2000, 2000, 1000, 0, 0, 0);
            weights(x, 31, 1, 256, 244, 154, 146, 0, 0, 0, 0);
            due("miss at first", x.led(0, 31, 0, 0), 14433);
            due("miss", x.led(0, 31, 1, 0), 47);
            due("led sum at first", x.led(0, 31, 0, 1), 2350);
            due("led sum", x.led(0, 31, 1, 1), 179);
        });
    }

    /** One layer and one mark of the same known sum, so that the marks keep what the layers gave. */
    private void parts(DrawnList x, int draw, int whole, int... want) {
        x.known(0, 0, whole);
        x.known(1, 0, whole);
        weights(x, draw, 1, want);
    }

    private void parts() {
        String words = "V times the share by their sum, rounded down each; what is left goes by 1 to those with the greatest rest ahead of rounding, of like ones the least";
        of("Terms 4", words, "of three alike: nothing, 1 to 4, what is left 1, 2 and none", () -> {
            DrawnList x = toldOne(Lists.alike(3), "a3");
            parts(x, 7, 0, 0, 0, 0);
            parts(x, 7, 1, 1, 0, 0);
            parts(x, 7, 2, 1, 1, 0);
            parts(x, 7, 3, 1, 1, 1);
            parts(x, 7, 4, 2, 1, 1);
            parts(x, 7, 100, 34, 33, 33);
            parts(x, 7, 101, 34, 34, 33);
        });
        of("Terms 4", words, "the greatest whole, and one less", () -> {
            DrawnList x = toldOne(Lists.alike(3), "a3");
            parts(x, 7, 30000, 10000, 10000, 10000);
            parts(x, 7, 29999, 10000, 10000, 9999);
            parts(toldOne(Lists.alike(1), "a1"), 1, 30000, 30000);
        });
        of("Terms 4", words, "of unlike ones, the greater rest first", () -> {
            DrawnList x = toldOne(Lists.sized(2, 4, 2), "z2");
            // 2000 and 1000; then 1000 and 2000.
            parts(x, 0b011, 1, 1, 0, 0);
            parts(x, 0b011, 2, 1, 1, 0);
            parts(x, 0b011, 10, 7, 3, 0);
            parts(x, 0b011, 11, 7, 4, 0);
            parts(x, 0b011, 12, 8, 4, 0);
            parts(x, 0b110, 1, 0, 0, 1);
            parts(x, 0b110, 2, 0, 1, 1);
            parts(x, 0b110, 10, 0, 3, 7);
        });
        of("Terms 4", words, "like rests of unlike ones: the least", () -> {
            DrawnList x = toldOne(Lists.sized(3, 1, 2), "z2");
            parts(x, 0b011, 2, 1, 1, 0);
            parts(x, 0b011, 6, 2, 4, 0);
            DrawnList y = toldOne(Lists.sized(1, 2, 3), "z2");
            parts(y, 0b101, 2, 2, 0, 0);
            parts(y, 0b101, 6, 5, 0, 1);
        });
        of("Terms 4", words, "of thirty: fewer than one each, and twenty-nine left", () -> {
            DrawnList x = toldOne(Lists.alike(30), "a30");
            x.known(0, 0, 29);
            x.known(1, 0, 29);
            weights(x, (1 << 30) - 1, 1, 1);
            due("the last but one", x.weight(0, (1 << 30) - 1, 1, 28), 1);
            due("the last", x.weight(0, (1 << 30) - 1, 1, 29), 0);
            due("miss", x.led(0, (1 << 30) - 1, 1, 0), 0);
        });
        of("Terms 4", words, "one without a weight gets none of what is left", () -> {
            DrawnList x = Lists.with(Lists.told(Lists.alike(4), NONE, 1, 1, 1), "a4");
            parts(x, 15, 1, 0, 1, 0, 0);
            parts(x, 15, 5, 0, 2, 2, 1);
        });
    }

    private void misses() {
        String words = "MISS behind so many ROUNDS: the sum of amounts by which WEIGHTS of LAYERS are off their KNOWN SUMS, and likewise of MARKS.";
        of("Terms 4", words, "nothing is off", () -> {
            DrawnList x = toldOne(Lists.alike(1), "a1");
            x.known(0, 0, 1000);
            x.known(1, 0, 1000);
            due("miss", x.led(0, 1, 0, 0), 0);
            due("behind a round", x.led(0, 1, 1, 0), 0);
        });
        of("Terms 4", words, "one more and one less than known", () -> {
            DrawnList x = toldOne(Lists.alike(1), "a1");
            x.known(0, 0, 1001);
            x.known(1, 0, 999);
            due("miss", x.led(0, 1, 0, 0), 2);
        });
        of("Terms 4", words, "layers and marks that have no names", () -> {
            DrawnList x = Lists.planned("e1");
            for (int l = 0; l < 4; l++) {
                x.known(0, l, 30000);
            }
            for (int m = 0; m < 3; m++) {
                x.known(1, m, 30000);
            }
            due("miss", x.led(0, 0, 0, 0), 210000);
            due("behind rounds", x.led(0, 0, 30, 0), 210000);
            due("led sum", x.led(0, 0, 30, 1), 0);
        });
    }

    private void ledSums() {
        String words = "LED SUM: WEIGHTS times VALUES, together, by 1000, cut.";
        of("Terms 4", words, "just below a thousand, just a thousand", () -> {
            DrawnList x = Lists.with(Lists.told(Lists.alike(1), 999), "a1");
            x.known(0, 0, 1);
            x.known(1, 0, 1);
            due("999", x.led(0, 1, 1, 1), 0);
            x.answer(0, 1000, 0);
            due("1000", x.led(0, 1, 1, 1), 1);
            x.answer(0, 1999, 0);
            due("1999", x.led(0, 1, 1, 1), 1);
        });
        of("Terms 4", words, "it is cut behind the sum", () -> {
            DrawnList x = Lists.with(Lists.told(Lists.alike(2), 500, 500), "a2");
            x.known(0, 0, 2);
            x.known(1, 0, 2);
            due("twice a half", x.led(0, 3, 1, 1), 1);
        });
        of("Terms 4", words, "the value 0, no values", () -> {
            due("0", Lists.with(Lists.told(Lists.alike(1), 0), "a1").led(0, 1, 0, 1), 0);
            due("none", Lists.with(Lists.alike(1), "a1").led(0, 1, 0, 1), 0);
        });
        of("Terms 4", words, "as much as may be led to", () -> {
            DrawnList x = Lists.with(Lists.told(Lists.layered(1, 1, 1, 1), 10000, 10000, 10000, 10000), "a4");
            for (int l = 0; l < 4; l++) {
                x.known(0, l, 30000);
            }
            x.known(1, 0, 30000);
            due("led sum", x.led(0, 15, 30, 1), 300000);
        });
    }

    private void known() {
        String words = "KNOWN SUM of a LAYER (what = 0), a MARK (1): what it was. BAD.";
        of("Promise 23", words, "the last layer and the last mark", () -> {
            DrawnList x = new DrawnList();
            due("layer 3", x.known(0, 3, 5), 0);
            due("mark 2", x.known(1, 2, 6), 0);
            due("layer 3 again", x.known(0, 3, 0), 5);
            due("mark 2 again", x.known(1, 2, 0), 6);
        });
        of("Promise 23", words, "no such layer", () -> refused(BAD, "known", x -> x.known(0, -1, 1), x -> x.known(0, 4, 1), x -> x.known(0, LOW, 1), x -> x.known(0, HIGH, 1)));
        of("Promise 23", words, "no such mark", () -> refused(BAD, "known", x -> x.known(1, -1, 1), x -> x.known(1, 3, 1), x -> x.known(1, LOW, 1), x -> x.known(1, HIGH, 1)));
        of("Promise 23", words, "what is 0 or 1", () -> refused(BAD, "known", x -> x.known(-1, 0, 1), x -> x.known(2, 0, 1), x -> x.known(LOW, 0, 1), x -> x.known(HIGH, 0, 1)));
    }

    private void weight() {
        String words = "WEIGHT of a NAME behind so many ROUNDS (0 to 30) of a DRAW by a PLAN (0: it has none).";
        of("Promise 24", words, "rounds 0 and 30 are taken", () -> {
            due("0", slow().weight(0, 7, 0, 2), 1000);
            due("30", slow().weight(0, 7, 30, 2), 29507);
        });
        for (int beyond : new int[] {-1, 31, LOW, HIGH}) {
            of("Promise 24", words, beyond + " rounds are BAD", () -> refused(BAD, "weight", x -> x.weight(0, 7, beyond, 0)));
        }
        of("Promise 24", words, "it has none", () -> {
            DrawnList x = Lists.rich();
            due("not in the draw", x.weight(0, 7, 0, 3), 0);
            due("silent", x.weight(0, 7, 0, 2), 0);
            due("in the draw, with a value", x.weight(0, 7, 0, 1), 2000);
        });
        of("Promise 24", words, "it has none in another draw, or as it is silent by then", () -> {
            DrawnList x = toldOne(Lists.alike(3), "a2");
            weights(x, 0b011, 0, 1500, 1500, 0);
            weights(x, 0b110, 0, 0, 1500, 1500);
            due("led sum", x.led(0, 0b011, 0, 1), 3);
            x.answer(0, NONE, 1);
            weights(x, 0b011, 0, 0, 1500, 0);
            due("led sum", x.led(0, 0b011, 0, 1), 1);
        });
        of("Promise 24", words, "asking changes nothing", () -> {
            DrawnList x = slow();
            due("first", x.weight(0, 7, 3, 0), 4286);
            due("of another draw's", x.weight(0, 7, 0, 0), 1000);
            due("again", x.weight(0, 7, 3, 0), 4286);
        });
        String refusals = "BAD: also a DRAW the PLAN cannot make; NOT: the PLAN cannot be.";
        of("Promise 24", refusals, "no such plan", () -> refused(BAD, "weight", x -> x.weight(-1, 7, 0, 0), x -> x.weight(4, 7, 0, 0), x -> x.weight(LOW, 7, 0, 0), x -> x.weight(HIGH, 7, 0, 0)));
        of("Promise 24", refusals, "no such name", () -> refused(BAD, "weight", x -> x.weight(0, 7, 0, -1), x -> x.weight(0, 7, 0, 6), x -> x.weight(0, 7, 0, LOW), x -> x.weight(0, 7, 0, HIGH)));
        of("Promise 24", refusals, "a draw that it cannot make, names that there are not", () ->
                refused(BAD, "weight", x -> x.weight(0, 3, 0, 0), x -> x.weight(0, 15, 0, 0), x -> x.weight(0, 0, 0, 0), x -> x.weight(0, 64, 0, 0), x -> x.weight(0, LOW, 0, 0)));
        of("Promise 24", refusals, "NOT", () -> refused("weight", Lists::without, x -> x.weight(0, 7, 0, 0), NOT));
        of("Promise 24", refusals, "BAD ahead of NOT, by each argument", () -> {
            refused("draw", Lists::without, x -> x.weight(0, 64, 0, 0), BAD);
            refused("rounds", Lists::without, x -> x.weight(0, 7, 31, 0), BAD);
            refused("name", Lists::without, x -> x.weight(0, 7, 0, 6), BAD);
        });
    }

    private void led() {
        String words = "MISS behind so many ROUNDS (what = 0), LED SUM (1). BAD; NOT.";
        of("Promise 25", words, "rounds 0 and 30 are taken", () -> {
            due("0", slow().led(0, 7, 0, 0), 114000);
            due("30", slow().led(0, 7, 30, 0), 986);
        });
        of("Promise 25", words, "-1 and 31 rounds are BAD", () -> refused(BAD, "led", x -> x.led(0, 7, -1, 0), x -> x.led(0, 7, 31, 0), x -> x.led(0, 7, LOW, 1), x -> x.led(0, 7, HIGH, 1)));
        of("Promise 25", words, "what is 0 or 1", () -> refused(BAD, "led", x -> x.led(0, 7, 0, -1), x -> x.led(0, 7, 0, 2), x -> x.led(0, 7, 0, LOW), x -> x.led(0, 7, 0, HIGH)));
        of("Promise 25", words, "no such plan", () -> refused(BAD, "led", x -> x.led(-1, 7, 0, 0), x -> x.led(4, 7, 0, 0)));
        of("Promise 25", words, "a draw that it cannot make, names that there are not", () ->
                refused(BAD, "led", x -> x.led(0, 3, 0, 0), x -> x.led(0, 15, 0, 1), x -> x.led(0, 64, 0, 0), x -> x.led(0, -1, 0, 0)));
        of("Promise 25", words, "NOT", () -> refused("led", Lists::without, x -> x.led(0, 7, 0, 0), NOT));
        of("Promise 25", words, "BAD ahead of NOT, by each argument", () -> {
            refused("draw", Lists::without, x -> x.led(0, 64, 0, 0), BAD);
            refused("rounds", Lists::without, x -> x.led(0, 7, 31, 0), BAD);
            refused("what", Lists::without, x -> x.led(0, 7, 0, 2), BAD);
        });
    }

    private void best(DrawnList x, int draw, int price, int set, int gain, int cost) {
        due("clusters for " + price, x.again(0, draw, price, 0), set);
        due("gain for " + price, x.again(0, draw, price, 1), gain);
        due("cost for " + price, x.again(0, draw, price, 2), cost);
    }

    private void costs() {
        String words = "(COST, told by CLUSTERS, 0 to 100; 5 at first; once for each CLUSTER that is gone to)";
        of("Terms 5", words, "5 at first, each its own", () -> {
            DrawnList x = new DrawnList();
            for (int c = 0; c < 8; c++) {
                due("cost of " + c, x.cost(c, 10 * c), 5);
            }
            for (int c = 0; c < 8; c++) {
                due("cost of " + c + " is its own", x.cost(c, 5), 10 * c);
            }
        });
        of("Terms 5", words, "0 and 100 are taken", () -> {
            DrawnList x = new DrawnList();
            due("100", x.cost(0, 100), 5);
            due("0", x.cost(0, 0), 100);
            due("0 was taken", x.cost(0, 1), 0);
        });
        for (int beyond : new int[] {-1, 101, LOW, HIGH}) {
            of("Terms 5", words, beyond + " is BAD", () -> refused(BAD, "cost", x -> x.cost(0, beyond)));
        }
        of("Terms 5", words, "once, though three are silent there", () -> best(Lists.with(Lists.clustered(0, 3), "a3"), 7, 5, 2, 3000, 5));
    }

    private void gains() {
        String words = "GAIN of a set of CLUSTERS: 1000 by SHARE, cut, of the SILENT NAMES there, together.";
        of("Terms 5", words, "those with values gain nothing", () -> {
            DrawnList x = Lists.with(Lists.told(Lists.clustered(2, 1), 0, NONE, NONE), "a3");
            best(x, 7, 5, 1, 1000, 5);
            best(x, 7, 10, 3, 2000, 10);
            x.answer(1, 0, 0);
            best(x, 7, 10, 2, 1000, 5);
        });
        of("Terms 5", words, "those that are not in the draw gain nothing", () -> {
            DrawnList x = Lists.with(Lists.clustered(1, 1, 1), "a2");
            best(x, 0b101, 800, 5, 3000, 10);
            best(x, 0b110, 800, 6, 3000, 10);
        });
        of("Terms 5", words, "the least share", () -> {
            DrawnList x = new DrawnList();
            for (int i = 0; i < 30; i++) {
                x.name(0, i % 8, i == 29 ? 1 : 20, 0);
            }
            Lists.plan(x, 0, "z1");
            best(x, 1 << 29, 800, 1 << 5, 581000, 5);
        });
        of("Terms 5", words, "cut", () -> {
            DrawnList x = Lists.with(Lists.sized(7, 3), "z1");
            best(x, 1, 5, 1, 1428, 5);
            best(x, 2, 5, 1, 3333, 5);
        });
        of("Terms 5", words, "nobody is silent", () -> {
            best(Lists.with(Lists.told(Lists.alike(2), 1, 2), "a2"), 3, 800, 0, 0, 0);
            best(Lists.with(Lists.alike(2), "e3"), 0, 800, 0, 0, 0);
        });
    }

    private static DrawnList eightClusters(int cost) {
        DrawnList x = Lists.clustered(1, 1, 1, 1, 1, 1, 1, 1);
        for (int c = 0; c < 8; c++) {
            x.cost(c, cost);
        }
        return Lists.with(x, "a8");
    }

    private void withinAPrice() {
        String words = "THE BEST within a price (0 to 800)";
        of("Terms 5", words, "a price of 0", () -> {
            best(eightClusters(1), 255, 0, 0, 0, 0);
            best(eightClusters(0), 255, 0, 255, 8000, 0);
        });
        of("Terms 5", words, "just the cost, and one less", () -> {
            best(Lists.with(Lists.alike(1), "a1"), 1, 5, 1, 1000, 5);
            best(Lists.with(Lists.alike(1), "a1"), 1, 4, 0, 0, 0);
        });
        of("Terms 5", words, "all eight at the greatest cost: 800 and 799", () -> {
            best(eightClusters(100), 255, 800, 255, 8000, 800);
            best(eightClusters(100), 255, 799, 127, 7000, 700);
        });
        for (int beyond : new int[] {-1, 801, LOW, HIGH}) {
            of("Terms 5", words, beyond + " is BAD", () -> refused(BAD, "again", x -> x.again(0, 7, beyond, 0)));
        }
    }

    private void best() {
        String words = "the most GAIN, of like ones the least COST, then the least as bits";
        of("Terms 5", words, "more gain at more cost", () -> {
            DrawnList x = Lists.with(Lists.clustered(1, 2), "a3");
            x.cost(1, 50);
            best(x, 7, 50, 2, 2000, 50);
            best(x, 7, 49, 1, 1000, 5);
            best(x, 7, 55, 3, 3000, 55);
            best(x, 7, 54, 2, 2000, 50);
        });
        of("Terms 5", words, "like gains: the least cost, though it is not the least as bits", () -> {
            DrawnList x = Lists.with(Lists.clustered(1, 1, 1), "a3");
            x.cost(0, 6);
            best(x, 7, 6, 2, 1000, 5);
            best(x, 7, 11, 6, 2000, 10);
            x.cost(2, 4);
            best(x, 7, 6, 4, 1000, 4);
        });
        of("Terms 5", words, "like gains and costs: the least as bits", () -> {
            DrawnList x = Lists.with(Lists.clustered(1, 1, 1), "a3");
            best(x, 7, 5, 1, 1000, 5);
            best(x, 7, 10, 3, 2000, 10);
            best(x, 7, 14, 3, 2000, 10);
        });
        of("Terms 5", words, "two clusters against one of like gain and cost", () -> {
            DrawnList x = Lists.with(Lists.clustered(1, 1, 2), "a4");
            x.cost(2, 10);
            best(x, 15, 10, 3, 2000, 10);
            DrawnList y = Lists.with(Lists.clustered(2, 1, 1), "a4");
            y.cost(0, 10);
            best(y, 15, 10, 1, 2000, 10);
        });
        of("Terms 5", words, "the last cluster", () -> best(Lists.with(Lists.clustered(0, 0, 0, 0, 0, 0, 0, 1), "a1"), 1, 800, 128, 1000, 5));
    }

    private void cost() {
        String words = "COST of a CLUSTER: what it was. BAD.";
        of("Promise 26", words, "clusters 0 and 7", () -> {
            DrawnList x = new DrawnList();
            due("0", x.cost(0, 1), 5);
            due("7", x.cost(7, 2), 5);
            due("0 again", x.cost(0, 3), 1);
            due("7 again", x.cost(7, 3), 2);
        });
        of("Promise 26", words, "no such cluster", () -> refused(BAD, "cost", x -> x.cost(-1, 1), x -> x.cost(8, 1), x -> x.cost(LOW, 1), x -> x.cost(HIGH, 1)));
    }

    private void again() {
        String words = "THE BEST within a price: 0 CLUSTERS as bits (with SILENT NAMES alone), 1 GAIN, 2 COST. BAD; NOT: the PLAN cannot be.";
        of("Promise 27", words, "a cluster without silent names is not among them, though it costs nothing", () -> {
            DrawnList x = Lists.with(Lists.told(Lists.clustered(1, 1, 1), 7), "a3");
            x.cost(0, 0);
            x.cost(3, 0);
            best(x, 7, 800, 6, 2000, 10);
            best(x, 7, 5, 2, 1000, 5);
        });
        of("Promise 27", words, "a free cluster with silent names is among them", () -> {
            DrawnList x = Lists.with(Lists.clustered(1, 1), "a2");
            x.cost(1, 0);
            best(x, 3, 0, 2, 1000, 0);
            best(x, 3, 5, 3, 2000, 5);
        });
        of("Promise 27", words, "each price is asked anew", () -> {
            DrawnList x = Lists.with(Lists.clustered(1, 2), "a3");
            best(x, 7, 10, 3, 3000, 10);
            best(x, 7, 4, 0, 0, 0);
            best(x, 7, 5, 2, 2000, 5);
            best(x, 7, 0, 0, 0, 0);
        });
        of("Promise 27", words, "what is 0 to 2", () -> refused(BAD, "again", x -> x.again(0, 7, 0, -1), x -> x.again(0, 7, 0, 3), x -> x.again(0, 7, 0, LOW), x -> x.again(0, 7, 0, HIGH)));
        of("Promise 27", words, "no such plan, names that there are not", () -> refused(BAD, "again", x -> x.again(-1, 7, 0, 0), x -> x.again(4, 7, 0, 0), x -> x.again(0, 64, 0, 0), x -> x.again(0, LOW, 0, 0)));
        of("Promise 27", words, "NOT", () -> refused("again", Lists::without, x -> x.again(0, 7, 0, 0), NOT));
        of("Promise 27", words, "BAD ahead of NOT, by each argument", () -> {
            refused("draw", Lists::without, x -> x.again(0, 64, 0, 0), BAD);
            refused("price", Lists::without, x -> x.again(0, 7, 801, 0), BAD);
            refused("what", Lists::without, x -> x.again(0, 7, 0, 3), BAD);
        });
    }
}
