/** Boundary cases of sums: the document's part 3 and promises 18 to 22, sentence by sentence. */
public final class BoundarySumsTest extends Cases {
    public static void main(String[] args) {
        new BoundarySumsTest().run();
    }

    void all() {
        sums();
        greatestSums();
        silentOnes();
        whereSpreads();
        spreads();
        edges();
        sumRefused();
        silent();
        spreadRefused();
        wider();
        widerRefused();
        edgeRefused();
    }

    private void sum(DrawnList x, int draw, long above, long below) {
        due("sum by " + draw + ", above", x.sum(0, draw, 0), above);
        due("sum by " + draw + ", below", x.sum(0, draw, 1), below);
    }

    private void spread(DrawnList x, long above, long below) {
        due("spread, above", x.spread(0, 0), above);
        due("spread, below", x.spread(0, 1), below);
    }

    private void noSpread(DrawnList x, String text) {
        due("spread of " + text, Lists.with(x, text).spread(0, 0), LONG_NOT);
    }

    private void edges(DrawnList x, long least, long greatest) {
        due("least sum", x.edge(0, 0), least);
        due("greatest sum", x.edge(0, 1), greatest);
    }

    private void sums() {
        String words = "The SUM by a DRAW and a PLAN: of its NAMES with a VALUE: VALUE by SHARE, together; a FRACTION.";
        of("Terms 3", words, "of no names", () -> sum(Lists.with(Lists.told(Lists.alike(2), 5, 6), "e3"), 0, 0, 1));
        of("Terms 3", words, "of none with a value", () -> sum(Lists.with(Lists.alike(2), "a2"), 3, 0, 1));
        of("Terms 3", words, "of the value 0", () -> sum(Lists.with(Lists.told(Lists.alike(2), 0, 0), "a1"), 2, 0, 1));
        of("Terms 3", words, "by a share of 1", () -> sum(Lists.with(Lists.told(Lists.alike(2), 5, 6), "a2"), 3, 11, 1));
        of("Terms 3", words, "those that are not in the draw do not count", () -> sum(Lists.with(Lists.told(Lists.alike(3), 1, 20, 300), "a1"), 2, 60, 1));
        of("Terms 3", words, "by shares that are unlike", () -> {
            // Shares of 1/2, 2/3 and 1.
            DrawnList x = Lists.with(Lists.told(Lists.layered(2, 3, 1), 3, 3, 1, 1, 1, 7), "l1,2,1,0");
            sum(x, 0b101101, 6 + 3 + 7, 1);
            x.answer(2, 0, 1);
            sum(x, 0b101101, 29, 2);
        });
        of("Terms 1", "FRACTIONS are told in lowest terms, above and below (0 by 1).", "sums", () -> {
            DrawnList x = Lists.with(Lists.told(Lists.sized(2, 1), 1, 1), "z1");
            sum(x, 1, 3, 2);
            x.answer(0, 4, 1);
            sum(x, 1, 6, 1);
            x.answer(0, 0, 2);
            sum(x, 1, 0, 1);
        });
    }

    /** Sixteen names by sizes, the first and each second one of a size with a figure of its own below. */
    private static DrawnList longBelow() {
        DrawnList x = Lists.sized(16, 7, 9, 14, 5, 18, 7, 16, 11, 12, 13, 10, 17, 6, 19, 4);
        for (int i = 0; i < 16; i++) {
            x.answer(i, 9973, 0);
        }
        return Lists.with(x, "z8");
    }

    private void greatestSums() {
        String words = "VALUE by SHARE, together; a FRACTION.";
        of("Terms 3", words, "the least share", () -> {
            DrawnList x = new DrawnList();
            for (int i = 0; i < 30; i++) {
                x.name(0, 0, i == 29 ? 1 : 20, 0);
            }
            x.answer(29, 10000, 0);
            Lists.plan(x, 0, "z1");
            sum(x, 1 << 29, 5810000, 1);
            edges(x, 0, 5810000);
        });
        of("Terms 3", words, "all thirty, each as much as may be", () -> {
            DrawnList x = Lists.full();
            for (int i = 0; i < 30; i++) {
                x.answer(i, 10000, 0);
            }
            Lists.plan(x, 0, "a30");
            sum(x, ALL_THIRTY, 300000, 1);
            Lists.plan(x, 0, "a1");
            sum(x, 1, 300000, 1);
            Lists.plan(x, 0, "e30");
            sum(x, 1 << 29, 300000, 1);
        });
        of("Terms 3", words, "a long number below", () -> {
            sum(longBelow(), 0x5555, 42491534664493L, 232792560L);
            sum(longBelow(), 0xaaaa, 1077851921L, 5040);
        });
    }

    private void silentOnes() {
        String words = "(NAMES without one count nothing: they are SILENT.)";
        of("Terms 3", words, "told nothing, will not tell, has not told yet", () -> {
            DrawnList x = Lists.with(Lists.alike(4), "a4");
            x.answer(0, 10, 5);
            x.answer(1, 20, 6);
            x.answer(2, 30, 5);
            x.answer(2, NONE, 6);
            sum(x, 15, 30, 1);
            due("silent", x.silent(15), 2);
            x.asOf(5);
            sum(x, 15, 40, 1);
            due("silent", x.silent(15), 2);
            x.asOf(4);
            sum(x, 15, 0, 1);
            due("silent", x.silent(15), 4);
        });
        of("Terms 3", words, "the value 0 is one", () -> due("silent", Lists.told(Lists.alike(1), 0).silent(1), 0));
    }

    private void whereSpreads() {
        String words = "if all NAMES (of LAYERS of which some are drawn) have VALUES";
        of("Terms 3", words, "a: all have, the first lacks, the last lacks", () -> {
            DrawnList x = Lists.told(Lists.alike(3), 1, 2, 4);
            spread(Lists.with(x, "a3"), 0, 1);
            x.answer(0, NONE, 1);
            noSpread(x, "a1");
            noSpread(x, "a3");
            x.answer(0, 1, 1);
            x.answer(2, NONE, 1);
            noSpread(x, "a1");
        });
        of("Terms 3", words, "l: one lacks in a layer of which none is drawn", () -> {
            DrawnList x = Lists.told(Lists.layered(3, 2), 1, 2, 4, 5);
            spread(Lists.with(x, "l1,0,0,0"), 14, 1);
            noSpread(x, "l1,1,0,0");
            noSpread(x, "l0,1,0,0");
            noSpread(x, "l0,2,0,0");
            noSpread(x, "a2");
        });
        of("Terms 3", words, "l: in the first layer, in the last", () -> {
            DrawnList x = Lists.told(Lists.layered(2, 0, 0, 2), NONE, 5, 6, 9);
            spread(Lists.with(x, "l0,0,0,1"), 9, 1);
            noSpread(x, "l1,0,0,1");
            x.answer(0, 5, 1);
            x.answer(3, NONE, 1);
            noSpread(x, "l0,0,0,1");
            spread(Lists.with(x, "l1,0,0,0"), 0, 1);
        });
        of("Terms 3", words, "as of a day", () -> {
            DrawnList x = Lists.with(Lists.alike(2), "a1");
            x.answer(0, 0, 5);
            x.answer(1, 3, 6);
            spread(x, 9, 1);
            x.asOf(5);
            due("not yet", x.spread(0, 0), LONG_NOT);
            x.asOf(6);
            spread(x, 9, 1);
        });
    }

    private void spreads() {
        String words = "the mean, over all ways, of the squares of the SUMS less their mean; a FRACTION";
        of("Terms 3", words, "a single name", () -> spread(Lists.with(Lists.told(Lists.alike(1), 7), "a1"), 0, 1));
        of("Terms 3", words, "a single name of a layer, beside another layer", () ->
                spread(Lists.with(Lists.told(Lists.layered(1, 3), 7, 1, 2, 4), "l1,1,0,0"), 14, 1));
        of("Terms 3", words, "a single way", () -> spread(Lists.with(Lists.told(Lists.alike(3), 1, 2, 4), "a3"), 0, 1));
        of("Terms 3", words, "like values", () -> spread(Lists.with(Lists.told(Lists.alike(3), 5, 5, 5), "a2"), 0, 1));
        of("Terms 3", words, "the values 0 and 10000", () -> spread(Lists.with(Lists.told(Lists.alike(2), 0, 10000), "a1"), 100000000, 1));
        of("Terms 3", words, "one, two of three", () -> {
            DrawnList x = Lists.told(Lists.alike(3), 1, 2, 4);
            spread(Lists.with(x, "a1"), 14, 1);
            spread(Lists.with(x, "a2"), 7, 2);
        });
        of("Terms 3", words, "two layers", () -> {
            DrawnList x = Lists.told(Lists.layered(3, 4), 1, 2, 4, 0, 1, 0, 3);
            spread(Lists.with(x, "l2,1,0,0"), 55, 2);
            spread(Lists.with(x, "l2,3,0,0"), 37, 6);
            spread(Lists.with(x, "l2,4,0,0"), 7, 2);
        });
        of("Terms 3", words, "four layers, long numbers below", () -> {
            DrawnList x = Lists.told(Lists.layered(8, 8, 7, 7), 3, 1, 4, 1, 5, 9, 2, 6, 2, 7, 1, 8, 2, 8, 1, 8, 1, 6, 1, 8, 0, 3, 3, 1, 4, 1, 4, 2, 1, 3);
            spread(Lists.with(x, "l3,5,5,4"), 19868, 105);
            spread(Lists.with(x, "l5,3,4,5"), 7147, 30);
        });
        of("Terms 3", words, "thirty names, as far apart as may be", () -> {
            DrawnList x = Lists.alike(30);
            for (int i = 0; i < 30; i++) {
                x.answer(i, i < 15 ? 0 : 10000, 0);
            }
            spread(Lists.with(x, "a1"), 22500000000L, 1);
            spread(Lists.with(x, "a29"), 22500000000L, 841);
        });
        of("Terms 1", "FRACTIONS are told in lowest terms, above and below (0 by 1).", "spreads", () -> {
            spread(Lists.with(Lists.told(Lists.alike(4), 1, 1, 1, 1), "a2"), 0, 1);
            spread(Lists.with(Lists.told(Lists.alike(3), 2, 4, 8), "a2"), 14, 1);
        });
    }

    private void edges() {
        String words = "EDGES of a PLAN e or z: the least and the greatest SUM over all ways, as they have VALUES: rounded down.";
        of("Terms 3", words, "none has a value", () -> {
            edges(Lists.with(Lists.alike(3), "e2"), 0, 0);
            edges(Lists.with(Lists.alike(3), "z2"), 0, 0);
        });
        of("Terms 3", words, "a way without names", () -> {
            edges(Lists.with(Lists.told(Lists.alike(2), 5, 6), "e2"), 10, 12);
            edges(Lists.with(Lists.told(Lists.alike(2), 5, 6), "e3"), 0, 18);
        });
        of("Terms 3", words, "one way alone", () -> {
            edges(Lists.with(Lists.told(Lists.alike(2), 5, 6), "e1"), 11, 11);
            edges(Lists.with(Lists.told(Lists.alike(2), 5, 6), "z2"), 11, 11);
        });
        of("Terms 3", words, "the first way and the last one are the edges", () -> {
            edges(Lists.with(Lists.told(Lists.alike(3), 1, 5, 9), "e3"), 3, 27);
            edges(Lists.with(Lists.told(Lists.alike(3), 9, 5, 1), "e3"), 3, 27);
            edges(Lists.with(Lists.told(Lists.sized(1, 1, 1), 1, 5, 9), "z1"), 3, 27);
            edges(Lists.with(Lists.told(Lists.sized(1, 1, 1), 9, 5, 1), "z1"), 3, 27);
        });
        of("Terms 3", words, "a half is cut, at the least and at the greatest", () -> {
            edges(Lists.with(Lists.told(Lists.sized(2, 1), 1, 1), "z1"), 1, 3);
            edges(Lists.with(Lists.told(Lists.sized(2, 1), 3, 1), "z1"), 3, 4);
        });
        of("Terms 3", words, "just a whole, and a little less", () -> {
            // By a share of 19/20: 19 makes 20; by one of 20/21 19 makes less than 20.
            edges(Lists.with(Lists.told(Lists.sized(19, 1), 19, 2), "z1"), 20, 40);
            edges(Lists.with(Lists.told(Lists.sized(20, 1), 19, 2), "z1"), 19, 42);
        });
        of("Terms 3", words, "it is rounded behind the sum", () -> {
            // Shares of 3/4: one and a third twice is two and two thirds, thrice is four.
            DrawnList x = Lists.with(Lists.told(Lists.sized(3, 1, 3, 1, 3, 1), 1, 9, 1, 9, 1, 9), "z3");
            edges(x, 4, 108);
        });
        of("Terms 3", words, "a long number below", () -> edges(longBelow(), 120124, 213859));
        of("Terms 3", words, "as of a day", () -> {
            DrawnList x = Lists.with(Lists.alike(2), "e2");
            x.answer(0, 5, 5);
            x.answer(1, 6, 6);
            x.asOf(4);
            edges(x, 0, 0);
            x.asOf(5);
            edges(x, 0, 10);
            x.asOf(6);
            edges(x, 10, 12);
        });
    }

    private void sumRefused() {
        String words = "SUM by a DRAW: above, below. BAD: also a DRAW the PLAN cannot make; NOT: the PLAN cannot be. (As the least long.)";
        of("Promise 18", words, "no such plan", () -> refused(LONG_BAD, "sum", x -> x.sum(-1, 7, 0), x -> x.sum(4, 7, 0), x -> x.sum(LOW, 7, 0), x -> x.sum(HIGH, 7, 0)));
        of("Promise 18", words, "names that there are not", () -> refused(LONG_BAD, "sum", x -> x.sum(0, 64, 0), x -> x.sum(0, 64 + 3, 0), x -> x.sum(0, LOW, 0), x -> x.sum(0, -1, 0)));
        of("Promise 18", words, "what is 0 or 1", () -> refused(LONG_BAD, "sum", x -> x.sum(0, 7, -1), x -> x.sum(0, 7, 2), x -> x.sum(0, 7, LOW), x -> x.sum(0, 7, HIGH)));
        of("Promise 18", words, "a draw that it cannot make, of each kind of plan", () -> {
            refused(LONG_BAD, "a", x -> x.sum(0, 3, 0), x -> x.sum(0, 15, 0), x -> x.sum(0, 0, 1));
            refused(LONG_BAD, "l", x -> x.sum(1, 0b000111, 0), x -> x.sum(1, 0b000101, 0));
            refused(LONG_BAD, "z", x -> x.sum(2, 0b000011, 0), x -> x.sum(2, 0b111111, 0));
            refused(LONG_BAD, "t", x -> x.sum(3, 0b000110, 0), x -> x.sum(3, 0b000001, 0));
            refused("e", () -> Lists.with(Lists.rich(), "e2"), x -> x.sum(0, 0b010111, 0), LONG_BAD);
        });
        of("Promise 18", words, "draws that they can make", () -> {
            sum(Lists.rich(), 0b000111, 60, 1);
            DrawnList x = Lists.rich();
            due("l", x.sum(1, 0b010101, 0), 20);
            due("z", x.sum(2, 0b001011, 0), 154);
            due("t", x.sum(3, 0b000011, 0), 20 + 80);
        });
        of("Promise 18", words, "NOT: the plan cannot be, whichever the draw", () -> {
            refused("some", Lists::without, x -> x.sum(0, 7, 0), LONG_NOT);
            refused("none", Lists::without, x -> x.sum(0, 0, 1), LONG_NOT);
            refused("all", Lists::without, x -> x.sum(0, 63, 0), LONG_NOT);
        });
        of("Promise 18", words, "BAD ahead of NOT, by each argument", () -> {
            refused("draw", Lists::without, x -> x.sum(0, 64, 0), LONG_BAD);
            refused("what", Lists::without, x -> x.sum(0, 7, 2), LONG_BAD);
        });
    }

    private void silent() {
        String words = "How many NAMES of a DRAW are SILENT. BAD.";
        of("Promise 19", words, "none, one, all thirty", () -> {
            due("no names", new DrawnList().silent(0), 0);
            due("none of thirty", Lists.full().silent(0), 0);
            due("all of thirty", Lists.full().silent(ALL_THIRTY), 30);
            due("the last", Lists.full().silent(1 << 29), 1);
            DrawnList x = Lists.rich();
            due("of all", x.silent(63), 3);
            due("of those with values", x.silent(0b100011), 0);
            due("of those without", x.silent(0b011100), 3);
        });
        of("Promise 19", words, "it asks for no plan", () -> due("silent", Lists.alike(2).silent(2), 1));
        of("Promise 19", words, "names that there are not", () -> {
            for (int draw : new int[] {64, 65, 1 << 29, 1 << 30, LOW, HIGH, -1}) {
                refused("silent", Lists::rich, x -> x.silent(draw), BAD);
            }
            refused("bit 30", Lists::full, x -> x.silent(1 << 30), BAD);
            refused("bit 31", Lists::full, x -> x.silent(LOW), BAD);
            refused("no names", DrawnList::new, x -> x.silent(1), BAD);
        });
    }

    /** Six names, all with values. */
    private static DrawnList allTold(String text) {
        return Lists.with(Lists.told(Lists.clustered(2, 2, 2), 1, 2, 3, 4, 5, 7), text);
    }

    private void spreadRefused() {
        String words = "SPREAD: above, below. BAD; NOT: the PLAN cannot be, is no a or l, or a VALUE lacks. (As the least long.)";
        of("Promise 20", words, "no such plan", () -> refused(LONG_BAD, "spread", x -> x.spread(-1, 0), x -> x.spread(4, 0), x -> x.spread(LOW, 0), x -> x.spread(HIGH, 0)));
        of("Promise 20", words, "what is 0 or 1", () -> refused(LONG_BAD, "spread", x -> x.spread(0, -1), x -> x.spread(0, 2), x -> x.spread(0, LOW), x -> x.spread(0, HIGH)));
        of("Promise 20", words, "the plan cannot be", () -> {
            for (String text : new String[] {"", "a", "a0", "a7", "a1x", "l0,0,0,0", "l3,0,0,0"}) {
                refused(text, () -> allTold(text), x -> x.spread(0, 0), LONG_NOT);
            }
        });
        of("Promise 20", words, "it is no a or l", () -> {
            for (String text : new String[] {"e1", "e6", "z1", "t3x2", "t1x1"}) {
                refused(text, () -> allTold(text), x -> x.spread(0, 1), LONG_NOT);
            }
            due("a has one", allTold("a6").spread(0, 1), 1);
            due("l has one", allTold("l2,2,1,1").spread(0, 1), 1);
        });
        of("Promise 20", words, "a value lacks", () -> refused("spread", Lists::rich, x -> x.spread(0, 0), LONG_NOT));
        of("Promise 20", words, "BAD ahead of NOT", () -> {
            refused("cannot be", Lists::without, x -> x.spread(0, 2), LONG_BAD);
            refused("no a or l", Lists::rich, x -> x.spread(2, -1), LONG_BAD);
        });
    }

    private void wider(DrawnList x, String one, String other, int want) {
        Lists.plan(x, 0, one);
        Lists.plan(x, 1, other);
        due(one + " against " + other, x.wider(0, 1), want);
        due(other + " against " + one, x.wider(1, 0), -want);
    }

    private void wider() {
        String words = "Whether the SPREAD of a PLAN is greater than that of another (1), as great (0), less (-1).";
        of("Promise 21", words, "against itself", () -> due("wider", allTold("a2").wider(0, 0), 0));
        of("Promise 21", words, "0 against 0, by unlike plans", () -> wider(allTold(""), "a6", "l2,2,1,1", 0));
        of("Promise 21", words, "0 against more", () -> wider(allTold(""), "a5", "a6", 1));
        of("Promise 21", words, "as great, by unlike plans", () -> {
            DrawnList x = Lists.told(Lists.layered(3, 3), 1, 2, 4, 4, 2, 1);
            wider(x, "l2,1,0,0", "l1,2,0,0", 0);
            wider(Lists.told(Lists.layered(3), 1, 2, 4), "a2", "l2,0,0,0", 0);
        });
        of("Promise 21", words, "apart behind the whole alone", () -> {
            DrawnList x = Lists.told(Lists.layered(7, 7), 10000, 10000, 10000, 3, 10000, 1, 0, 2, 10000, 10000, 10000, 10000, 1, 1);
            Lists.plan(x, 0, "l6,0,0,0");
            due("above", x.spread(0, 0), 599840027);
            due("below", x.spread(0, 1), 18);
            Lists.plan(x, 0, "l0,6,0,0");
            due("above", x.spread(0, 0), 199946671);
            due("below", x.spread(0, 1), 6);
            wider(x, "l6,0,0,0", "l0,6,0,0", 1);
        });
        of("Promise 21", words, "apart by less than one", () -> {
            DrawnList x = Lists.told(Lists.layered(2, 3), 0, 1, 0, 0, 1);
            // 1 against 2; 1 against 1/2; 0 against 1/2.
            wider(x, "l1,0,0,0", "l0,1,0,0", -1);
            wider(x, "l1,0,0,0", "l0,2,0,0", 1);
            wider(x, "l2,0,0,0", "l0,2,0,0", -1);
        });
        of("Promise 21", words, "far apart", () -> {
            DrawnList x = Lists.alike(30);
            for (int i = 0; i < 30; i++) {
                x.answer(i, i < 15 ? 0 : 10000, 0);
            }
            wider(x, "a1", "a29", 1);
            wider(x, "a1", "a30", 1);
        });
    }

    private void widerRefused() {
        String words = "BAD; NOT: as spread(), of one of both.";
        of("Promise 21", words, "no such plan, as the one or the other", () -> {
            for (int beyond : new int[] {-1, 4, LOW, HIGH}) {
                refused("one", () -> allTold("a2"), x -> x.wider(beyond, 0), BAD);
                refused("other", () -> allTold("a2"), x -> x.wider(0, beyond), BAD);
                refused("both", () -> allTold("a2"), x -> x.wider(beyond, beyond), BAD);
            }
        });
        of("Promise 21", words, "NOT by the one, by the other, by both", () -> {
            refused("one is empty", () -> allTold("a2"), x -> x.wider(1, 0), NOT);
            refused("the other is empty", () -> allTold("a2"), x -> x.wider(0, 1), NOT);
            refused("both are empty", () -> allTold("a2"), x -> x.wider(1, 1), NOT);
            refused("a value lacks", Lists::rich, x -> x.wider(0, 0), NOT);
            refused("one is no a or l", () -> allTold("e2"), x -> x.wider(0, 0), NOT);
        });
        of("Promise 21", words, "NOT by a value that lacks in one of them", () -> {
            DrawnList x = Lists.told(Lists.layered(2, 2), 1, 2, 3);
            Lists.plan(x, 0, "l1,0,0,0");
            Lists.plan(x, 1, "l0,1,0,0");
            due("it has one", x.wider(0, 0), 0);
            due("the other", x.wider(0, 1), NOT);
            due("the one", x.wider(1, 0), NOT);
        });
        of("Promise 21", words, "BAD ahead of NOT", () -> {
            refused("the one is empty", () -> allTold("a2"), x -> x.wider(1, 4), BAD);
            refused("the other is empty", () -> allTold("a2"), x -> x.wider(-1, 1), BAD);
        });
    }

    private void edgeRefused() {
        String words = "EDGES: the least (what = 0), the greatest (1). BAD; NOT: the PLAN cannot be, is no e or z. (As the least long.)";
        of("Promise 22", words, "no such plan", () -> refused(LONG_BAD, "edge", x -> x.edge(-1, 0), x -> x.edge(4, 0), x -> x.edge(LOW, 0), x -> x.edge(HIGH, 0)));
        of("Promise 22", words, "what is 0 or 1", () -> refused(LONG_BAD, "edge", x -> x.edge(2, -1), x -> x.edge(2, 2), x -> x.edge(2, LOW), x -> x.edge(2, HIGH)));
        of("Promise 22", words, "the plan cannot be", () -> {
            for (String text : new String[] {"", "e", "e0", "e31", "z0", "z23", "e1x", "z1,"}) {
                refused(text, () -> Lists.with(Lists.rich(), text), x -> x.edge(0, 0), LONG_NOT);
            }
            due("z22 can", Lists.with(Lists.rich(), "z22").edge(0, 1), 90);
            due("e30 can", Lists.with(Lists.rich(), "e30").edge(0, 1), 1800);
        });
        of("Promise 22", words, "it is no e or z", () -> {
            for (String text : new String[] {"a3", "l1,1,1,0", "t2x1"}) {
                refused(text, () -> Lists.with(Lists.rich(), text), x -> x.edge(0, 1), LONG_NOT);
            }
        });
        of("Promise 22", words, "BAD ahead of NOT", () -> refused("edge", Lists::rich, x -> x.edge(0, 2), LONG_BAD));
    }
}
