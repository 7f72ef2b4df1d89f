/** Each promise of the document by its number: ordinary inputs, the edges that it names, wrong inputs. */
public final class PromiseTest {
    private static final int LOW = Integer.MIN_VALUE, HIGH = Integer.MAX_VALUE;
    private static final int BAD = -2, NOT = -3, FULL = -4;
    private static final int NULL = -11, INDEX = -12, CAST = -13, STORE = -14, SIZE = -15;
    private static final long LONG_BAD = Long.MIN_VALUE + 2, LONG_NOT = Long.MIN_VALUE + 3;

    private static final Check CHECK = new Check("PromiseTest");

    public static void main(String[] args) {
        promise1();
        promise2();
        promise3();
        promise4and5();
        promise6();
        promise7();
        promise8and9();
        promise10();
        promise11();
        promise12();
        promise13();
        promise14();
        promise15();
        promise16();
        promise17();
        promise18and19();
        promise20();
        promise21();
        promise22();
        promise23();
        promise24();
        promise25();
        promise26and27();
        promise28and29();
        promise30and31();
        promise32();
        promise33();
        promise34();
        promise35();
        CHECK.close();
    }

    private static void due(String what, long got, long want) {
        CHECK.due(what, got, want);
    }

    private static void promise1() {
        DrawnList x = new DrawnList();
        int[] atFirst = {0, 0, 0, 399, 0, 0, 0, 0, 0, 0};
        for (int what = 0; what < atFirst.length; what++) {
            due("1: count(" + what + ") at first", x.count(what), atFirst[what]);
        }
        for (int s = 0; s < 4; s++) {
            due("1: sheet " + s + " is lost", x.lose(s), NULL);
        }
        for (int l = 0; l < 4; l++) {
            due("1: known of layer", x.known(0, l, 7), 0);
        }
        for (int m = 0; m < 3; m++) {
            due("1: known of mark", x.known(1, m, 7), 0);
        }
        for (int c = 0; c < 8; c++) {
            due("1: cost", x.cost(c, 7), 5);
        }
        DrawnList other = new DrawnList();
        due("1: objects are apart", other.known(0, 0, 0), 0);
        due("1: objects are apart", other.count(8), 0);
    }

    private static void promise2() {
        DrawnList x = new DrawnList();
        due("2: least of all", x.name(0, 0, 1, 0), 0);
        due("2: greatest of all", x.name(3, 7, 20, 2), 1);
        int[][] wrong = {{-1, 0, 1, 0}, {4, 0, 1, 0}, {0, -1, 1, 0}, {0, 8, 1, 0}, {0, 0, 0, 0}, {0, 0, 21, 0},
            {0, 0, 1, -1}, {0, 0, 1, 3}, {LOW, 0, 1, 0}, {0, HIGH, 1, 0}, {0, 0, LOW, 0}, {0, 0, HIGH, 0}, {0, 0, 1, HIGH}};
        for (int[] w : wrong) {
            due("2: wrong", x.name(w[0], w[1], w[2], w[3]), BAD);
        }
        due("2: wrong ones change nothing", x.count(0), 2);
        DrawnList y = Lists.full();
        due("2: the last", y.count(0), 30);
        due("2: one too many", y.name(0, 0, 1, 0), FULL);
        due("2: bad comes ahead of full", y.name(4, 0, 1, 0), BAD);
        due("2: full changes nothing", y.count(0), 30);
    }

    private static void promise3() {
        DrawnList x = new DrawnList();
        due("3: no such sheet", x.read(4), BAD);
        due("3: no such sheet", x.read(-1), BAD);
        due("3: bad is no finding", x.count(8), 0);
        due("3: lost", x.read(0), NULL);
        due("3: lost is a finding", x.count(8), 1);
        x.sheet(0, 2, 11);
        int[] items = {1, 2, 3, 1, 3, 7, 20, 2, 0, 0, 1};
        for (int i = 0; i < items.length; i++) {
            x.put(0, 2, i, items[i]);
        }
        due("3: two whole ones", x.read(0), 2);
        due("3: layer", x.about(0, 0), 1);
        due("3: cluster", x.about(0, 1), 2);
        due("3: size", x.about(0, 2), 3);
        due("3: mark", x.about(0, 3), 1);
        due("3: size of the next", x.about(1, 2), 20);
        x.put(0, 2, 1, 8);
        due("3: the first may not be", x.read(0), 0);
        x.sheet(1, 1, 3);
        due("3: none is whole", x.read(1), 0);
        x.sheet(1, 0, 0);
        due("3: an empty sheet", x.read(1), 0);
        x.sheet(2, 0, 90);
        for (int i = 2; i < 90; i += 4) {
            x.put(2, 0, i, 1);
        }
        due("3: twenty-two whole ones of ninety items", x.read(2), 22);
        due("3: as long as there is room", x.read(2), 6);
        due("3: all in all", x.count(0), 30);
        due("3: no room", x.read(2), 0);
        due("3: the sheet stays", x.get(2, 0, 2), 1);
    }

    private static void promise4and5() {
        DrawnList x = new DrawnList();
        due("4: no names yet", x.about(0, 0), BAD);
        due("5: no names yet", x.answer(0, 1, 1), BAD);
        x.name(3, 7, 20, 2);
        x.name(1, 4, 9, 0);
        int[] first = {3, 7, 20, 2, -1};
        int[] second = {1, 4, 9, 0, -1};
        for (int what = 0; what < 5; what++) {
            due("4: of the first", x.about(0, what), first[what]);
            due("4: of the second", x.about(1, what), second[what]);
        }
        due("4: no such name", x.about(2, 0), BAD);
        due("4: no such name", x.about(-1, 0), BAD);
        due("4: no such thing", x.about(0, 5), BAD);
        due("4: no such thing", x.about(0, -1), BAD);
        due("4: no such thing", x.about(LOW, HIGH), BAD);
        due("5: least", x.answer(0, 0, 0), 1);
        due("4: value", x.about(0, 4), 0);
        due("5: greatest", x.answer(0, 10000, 399), 2);
        due("4: the later day", x.about(0, 4), 10000);
        due("5: an earlier day", x.answer(0, 77, 398), 3);
        due("4: the later day stays", x.about(0, 4), 10000);
        due("5: the same day", x.answer(0, 55, 399), 4);
        due("4: of like days the later", x.about(0, 4), 55);
        due("5: it will not tell", x.answer(0, -1, 399), 5);
        due("4: it does not tell", x.about(0, 4), -1);
        due("4: another name has none", x.about(1, 4), -1);
        int[][] wrong = {{-1, 0, 0}, {2, 0, 0}, {0, -2, 0}, {0, 10001, 0}, {0, 0, -1}, {0, 0, 400}, {LOW, 0, 0}, {0, LOW, 0}, {0, 0, HIGH}};
        for (int[] w : wrong) {
            due("5: wrong", x.answer(w[0], w[1], w[2]), BAD);
        }
        due("5: wrong ones change nothing", x.count(2), 5);
        for (int k = 6; k <= 120; k++) {
            due("5: one more", x.answer(1, k, k), k);
        }
        due("5: too many", x.answer(1, 1, 399), FULL);
        due("5: bad comes ahead of full", x.answer(1, 1, 400), BAD);
        due("5: full changes nothing", x.about(1, 4), 120);
    }

    private static void promise6() {
        DrawnList x = Lists.sized(1, 1);
        x.answer(0, 10, 5);
        x.answer(0, 20, 9);
        x.answer(1, 30, 7);
        x.answer(0, -1, 12);
        due("6: what it was", x.asOf(4), 399);
        due("6: ahead of all", x.about(0, 4), -1);
        due("6: what it was", x.asOf(5), 4);
        due("6: that day counts", x.about(0, 4), 10);
        due("6: not yet", x.about(1, 4), -1);
        x.asOf(8);
        due("6: between", x.about(0, 4), 10);
        due("6: between", x.about(1, 4), 30);
        x.asOf(11);
        due("6: the next", x.about(0, 4), 20);
        x.asOf(12);
        due("6: it does not tell any more", x.about(0, 4), -1);
        x.answer(0, 40, 13);
        due("6: of a day to come", x.about(0, 4), -1);
        due("6: least", x.asOf(0), 12);
        due("6: greatest", x.asOf(399), 0);
        due("6: told meanwhile", x.about(0, 4), 40);
        due("6: wrong", x.asOf(400), BAD);
        due("6: wrong", x.asOf(-1), BAD);
        due("6: wrong ones change nothing", x.count(3), 399);
        x.asOf(0);
        x.name(0, 0, 1, 0);
        due("6: a name that came later", x.about(2, 4), -1);
        x.answer(2, 3, 0);
        due("6: day 0", x.about(2, 4), 3);
    }

    private static void promise7() {
        DrawnList x = new DrawnList();
        due("7: none", x.many(3, 0), 0);
        x.name(0, 7, 1, 2);
        x.name(3, 7, 1, 2);
        x.name(3, 0, 1, 1);
        x.name(3, 7, 1, 0);
        int[] layers = {1, 0, 0, 3};
        int[] clusters = {1, 0, 0, 0, 0, 0, 0, 3};
        int[] marks = {1, 1, 2};
        for (int l = 0; l < 4; l++) {
            due("7: of a layer", x.many(0, l), layers[l]);
        }
        for (int c = 0; c < 8; c++) {
            due("7: of a cluster", x.many(1, c), clusters[c]);
        }
        for (int m = 0; m < 3; m++) {
            due("7: of a mark", x.many(2, m), marks[m]);
        }
        due("7: all", x.many(3, 0), 4);
        int[][] wrong = {{0, 4}, {0, -1}, {1, 8}, {1, -1}, {2, 3}, {2, -1}, {3, 1}, {3, -1}, {4, 0}, {-1, 0}, {LOW, LOW}};
        for (int[] w : wrong) {
            due("7: wrong", x.many(w[0], w[1]), BAD);
        }
    }

    private static void promise8and9() {
        DrawnList x = new DrawnList();
        for (int k = 1; k <= 20; k++) {
            due("8: one more", x.type(3, k * 12), k);
        }
        due("8: too many", x.type(3, 0), FULL);
        due("8: bad comes ahead of full", x.type(3, 256), BAD);
        due("8: bad comes ahead of full", x.type(3, -1), BAD);
        due("8: bytes", x.count(7), 20);
        due("8: least", x.type(0, 0), 1);
        due("8: greatest", x.type(0, 255), 2);
        due("8: no such plan", x.type(4, 97), BAD);
        due("8: no such plan", x.type(-1, 97), BAD);
        due("9: what it had", x.wipe(3), 20);
        due("9: nothing", x.wipe(3), 0);
        due("9: another stays", x.count(4), 2);
        due("9: no such plan", x.wipe(4), BAD);
        due("9: no such plan", x.wipe(-1), BAD);
        Lists.plan(x, 2, "a5");
        Lists.plan(x, 2, "e2");
        due("9: a new text", x.can(2), 1);
    }

    private static void promise10() {
        Object[][] texts = {{"", 0}, {"a", 1}, {"a1", -1}, {"a12", -1}, {"a123", 3}, {"a1 ", 2}, {"a ", 1}, {"a-1", 1}, {"A1", 0}, {"1", 0},
            {"e", 1}, {"e0", -1}, {"e99", -1}, {"e999", 3}, {"ez", 1}, {"z", 1}, {"z00", -1}, {"z1,", 2}, {"z1x1", 2},
            {"l", 1}, {"l1", 2}, {"l1,", 3}, {"l1,2", 4}, {"l1,2,3,4", -1}, {"l11,22,33,44", -1}, {"l1,2,3,4,", 8}, {"l1,2,3,444", 9},
            {"l111", 3}, {"l,1", 1}, {"l1,,", 3}, {"l1x2", 2}, {"l1,2,3", 6}, {"l1,2,3,", 7}, {"l1 ,2", 2},
            {"t", 1}, {"t1", 2}, {"t1x", 3}, {"t1x1", -1}, {"t12x34", -1}, {"t123", 3}, {"t12x345", 6}, {"t1,1", 2}, {"t1X1", 2}, {"tx1", 1}, {"t1x1x", 4},
            {"q", 0}, {"\u00e11", 0}, {"a/", 1}, {"a:", 1}, {"a1:", 2}, {"a0", -1}};
        for (Object[] t : texts) {
            due("10: fault of '" + t[0] + "'", Lists.planned((String) t[0]).fault(0), (Integer) t[1]);
        }
        DrawnList x = Lists.planned("a1");
        due("10: no such plan", x.fault(4), BAD);
        due("10: no such plan", x.fault(-1), BAD);
        due("10: another plan is empty", x.fault(1), 0);
        x.type(0, 97);
        due("10: a byte more", x.fault(0), 2);
        x.wipe(0);
        due("10: empty again", x.fault(0), 0);
    }

    private static void can(DrawnList x, String text, int want) {
        Lists.plan(x, 0, text);
        due("11: can " + text + " be", x.can(0), want);
    }

    private static void promise11() {
        DrawnList x = new DrawnList();
        can(x, "a0", 0);
        can(x, "a1", 0);
        can(x, "z1", 0);
        can(x, "t1x1", 0);
        can(x, "l0,0,0,0", 0);
        can(x, "e1", 1);
        can(x, "e30", 1);
        can(x, "e31", 0);
        can(x, "e0", 0);
        x.name(1, 3, 5, 0);
        x.name(1, 5, 2, 0);
        x.name(2, 5, 2, 0);
        can(x, "a3", 1);
        can(x, "a03", 1);
        can(x, "a4", 0);
        can(x, "a0", 0);
        can(x, "a3x", 0);
        can(x, "l0,0,0,0", 0);
        can(x, "l0,2,1,0", 1);
        can(x, "l0,0,1,0", 1);
        can(x, "l0,3,0,0", 0);
        can(x, "l1,1,1,0", 0);
        can(x, "l0,1,1,1", 0);
        can(x, "z0", 0);
        can(x, "z1", 1);
        can(x, "z9", 1);
        can(x, "z10", 0);
        can(x, "t0x1", 0);
        can(x, "t1x0", 0);
        can(x, "t2x99", 1);
        can(x, "t3x1", 0);
        x.name(3, 0, 1, 0);
        due("11: by names as they are", x.can(0), 1);
        due("11: an empty plan", x.can(1), 0);
        due("11: no such plan", x.can(4), BAD);
        due("11: no such plan", x.can(-1), BAD);
    }

    private static void promise12() {
        DrawnList x = Lists.full();
        Lists.plan(x, 0, "a15");
        due("12: fifteen of thirty", x.draws(0), 155117520L);
        Lists.plan(x, 0, "a30");
        due("12: all", x.draws(0), 1);
        Lists.plan(x, 0, "a29");
        due("12: all but one", x.draws(0), 30);
        Lists.plan(x, 0, "l4,4,3,0");
        due("12: by layers", x.draws(0), 70L * 70 * 35);
        Lists.plan(x, 0, "e7");
        due("12: each seventh", x.draws(0), 7);
        Lists.plan(x, 0, "z1");
        due("12: all sizes", x.draws(0), 265);
        Lists.plan(x, 0, "z26");
        due("12: cut", x.draws(0), 10);
        DrawnList y = Lists.clustered(1, 2, 3, 0, 4);
        Lists.plan(y, 0, "t2x2");
        due("12: in two steps", y.draws(0), 1 + 3 + 6 + 3 + 6 + 18);
        Lists.plan(y, 0, "t4x1");
        due("12: one of each cluster", y.draws(0), 24);
        Lists.plan(y, 0, "t3x9");
        due("12: whole clusters", y.draws(0), 4);
        Lists.plan(y, 0, "t5x1");
        due("12: it cannot be", y.draws(0), LONG_NOT);
        Lists.plan(y, 0, "");
        due("12: an empty plan", y.draws(0), LONG_NOT);
        due("12: no such plan", y.draws(4), LONG_BAD);
        due("12: no such plan", y.draws(-1), LONG_BAD);
        DrawnList z = Lists.clustered(4, 4, 4, 4, 4, 4, 3, 3);
        Lists.plan(z, 0, "t8x2");
        due("12: many ways", z.draws(0), 46656L * 9);
    }

    private static void share(DrawnList x, int name, long above, long below) {
        due("13: share of " + name + ", above", x.share(0, name, 0), above);
        due("13: share of " + name + ", below", x.share(0, name, 1), below);
    }

    private static void promise13() {
        DrawnList x = Lists.full();
        Lists.plan(x, 0, "a12");
        share(x, 29, 2, 5);
        Lists.plan(x, 0, "a30");
        share(x, 0, 1, 1);
        Lists.plan(x, 0, "l4,0,7,2");
        share(x, 0, 1, 2);
        share(x, 1, 0, 1);
        share(x, 2, 1, 1);
        share(x, 3, 2, 7);
        Lists.plan(x, 0, "e30");
        share(x, 17, 1, 30);
        Lists.plan(x, 0, "z2");
        share(x, 19, 5, 33);
        DrawnList y = Lists.clustered(4, 2, 1);
        Lists.plan(y, 0, "t2x2");
        share(y, 0, 1, 3);
        share(y, 4, 2, 3);
        share(y, 6, 2, 3);
        // Clusters are alike likely, whichever ways there are within them.
        Lists.plan(y, 0, "t1x1");
        share(y, 0, 1, 12);
        share(y, 6, 1, 3);
        DrawnList z = Lists.sized(2, 5, 1, 1);
        Lists.plan(z, 0, "z2");
        share(z, 0, 1, 2);
        share(z, 1, 1, 1);
        share(z, 2, 1, 4);
        share(z, 3, 0, 1);
        due("13: no such name", z.share(0, 4, 0), LONG_BAD);
        due("13: no such name", z.share(0, -1, 0), LONG_BAD);
        due("13: no such part", z.share(0, 0, 2), LONG_BAD);
        due("13: no such part", z.share(0, 0, -1), LONG_BAD);
        due("13: no such plan", z.share(4, 0, 0), LONG_BAD);
        due("13: no such plan", z.share(-1, 0, 0), LONG_BAD);
        due("13: it cannot be", z.share(1, 0, 0), LONG_NOT);
        due("13: bad comes ahead of not", z.share(1, 4, 0), LONG_BAD);
    }

    private static void both(DrawnList x, int a, int b, long above, long below) {
        due("14: both " + a + " and " + b + ", above", x.both(0, a, b, 0), above);
        due("14: both " + a + " and " + b + ", below", x.both(0, a, b, 1), below);
        due("14: both, the other way round", x.both(0, b, a, 0), above);
        due("14: both, the other way round", x.both(0, b, a, 1), below);
    }

    private static void promise14() {
        DrawnList x = Lists.full();
        Lists.plan(x, 0, "a10");
        both(x, 0, 29, 3, 29);
        Lists.plan(x, 0, "a1");
        both(x, 0, 1, 0, 1);
        Lists.plan(x, 0, "l4,2,0,1");
        both(x, 0, 4, 3, 14);
        both(x, 0, 1, 1, 8);
        both(x, 0, 2, 0, 1);
        both(x, 3, 7, 0, 1);
        Lists.plan(x, 0, "e4");
        both(x, 3, 27, 1, 4);
        both(x, 3, 28, 0, 1);
        DrawnList y = Lists.clustered(4, 3, 1);
        Lists.plan(y, 0, "t2x2");
        both(y, 0, 3, 1, 9);
        both(y, 0, 4, 1, 9);
        both(y, 4, 7, 2, 9);
        Lists.plan(y, 0, "t1x4");
        both(y, 0, 3, 1, 3);
        both(y, 0, 4, 0, 1);
        DrawnList z = Lists.sized(3, 3, 3, 3);
        Lists.plan(z, 0, "z2");
        both(z, 0, 2, 1, 2);
        both(z, 0, 1, 0, 1);
        Lists.plan(z, 0, "z5");
        both(z, 0, 1, 1, 1);
        due("14: like names", z.both(0, 1, 1, 0), LONG_BAD);
        due("14: no such name", z.both(0, 4, 1, 0), LONG_BAD);
        due("14: no such name", z.both(0, 1, -1, 0), LONG_BAD);
        due("14: no such name", z.both(0, LOW, HIGH, 0), LONG_BAD);
        due("14: no such part", z.both(0, 0, 1, 2), LONG_BAD);
        due("14: no such plan", z.both(4, 0, 1, 0), LONG_BAD);
        due("14: it cannot be", z.both(3, 0, 1, 0), LONG_NOT);
        due("14: bad comes ahead of not", z.both(3, 0, 0, 0), LONG_BAD);
    }

    private static void width(DrawnList x, String text, int least, int most) {
        Lists.plan(x, 0, text);
        due("15: least of " + text, x.width(0, 0), least);
        due("15: most of " + text, x.width(0, 1), most);
    }

    private static void promise15() {
        DrawnList x = Lists.full();
        width(x, "a7", 7, 7);
        width(x, "l1,2,3,4", 10, 10);
        width(x, "e4", 7, 8);
        width(x, "e30", 1, 1);
        width(x, "e1", 30, 30);
        width(x, "z1", 1, 1);
        // Steps of 2, up to point 197: twenty names, of which the first is one point long.
        width(x, "z99", 19, 20);
        DrawnList y = Lists.clustered(4, 2, 0, 1, 3);
        width(y, "t2x9", 3, 7);
        width(y, "t2x2", 3, 4);
        width(y, "t3x1", 3, 3);
        width(y, "t4x3", 9, 9);
        width(y, "e11", 0, 1);
        width(Lists.clustered(30), "t1x99", 30, 30);
        width(Lists.clustered(30), "t1x30", 30, 30);
        width(Lists.sized(1, 6, 1), "z3", 1, 2);
        width(Lists.sized(1, 9, 1, 1), "z4", 2, 2);
        due("15: no such end", x.width(0, 2), BAD);
        due("15: no such end", x.width(0, -1), BAD);
        due("15: no such plan", x.width(4, 0), BAD);
        due("15: it cannot be", x.width(1, 0), NOT);
        due("15: bad comes ahead of not", x.width(1, 2), BAD);
    }

    private static int next(int seed) {
        return 1103515245 * seed + 12345;
    }

    private static int lot(int seed, int k) {
        return (seed >>> 16) % k;
    }

    private static void promise16() {
        int seed = 12345678;
        DrawnList x = Lists.full();
        Lists.plan(x, 0, "e7");
        int first = lot(next(seed), 7);
        int draw = 0;
        for (int i = first; i < 30; i += 7) {
            draw |= 1 << i;
        }
        due("16: each seventh", x.lots(0, seed), draw);
        DrawnList y = Lists.layered(3, 2);
        Lists.plan(y, 0, "l0,1,0,0");
        // A lot for each of the first layer too, though none of it is wanted.
        int s = next(next(next(next(seed))));
        due("16: by layers", y.lots(0, seed), lot(s, 2) < 1 ? 8 : 16);
        Lists.plan(y, 0, "l0,1,0,0");
        due("16: it can be done again", y.lots(0, seed), y.lots(0, seed));
        DrawnList z = Lists.sized(9, 1, 5);
        Lists.plan(z, 0, "z1");
        int u = lot(next(-7), 15);
        due("16: by sizes", z.lots(0, -7), u < 9 ? 1 : u < 10 ? 2 : 4);
        Lists.plan(x, 0, "a30");
        due("16: all of thirty", x.lots(0, 99), (1 << 30) - 1);
        Lists.plan(x, 0, "t8x30");
        due("16: all clusters", x.lots(0, 5), (1 << 30) - 1);
        due("16: the least seed", x.lots(0, LOW), (1 << 30) - 1);
        due("16: no such plan", x.lots(4, 0), BAD);
        due("16: no such plan", x.lots(-1, 0), BAD);
        due("16: it cannot be", x.lots(1, 0), NOT);
        String[] texts = {"a11", "l2,0,7,1", "e9", "z13", "t3x2"};
        for (String text : texts) {
            DrawnList w = Lists.with(Lists.full(), text);
            for (int k = -50; k < 50; k++) {
                due("16: a draw of " + text, w.makes(0, w.lots(0, k * 40000001)), 1);
            }
        }
    }

    private static void makes(DrawnList x, String text, int draw, int want) {
        Lists.plan(x, 0, text);
        due("17: " + text + " makes " + draw, x.makes(0, draw), want);
    }

    private static void promise17() {
        DrawnList x = Lists.layered(2, 2, 0, 1);
        makes(x, "a2", 0b10001, 1);
        makes(x, "a2", 0b10101, 0);
        makes(x, "a2", 0, 0);
        makes(x, "l1,1,0,0", 0b00101, 1);
        makes(x, "l1,1,0,0", 0b00011, 0);
        makes(x, "l1,1,0,0", 0b10101, 0);
        makes(x, "l0,0,0,1", 0b10000, 1);
        makes(x, "e2", 0b10101, 1);
        makes(x, "e2", 0b01010, 1);
        makes(x, "e2", 0b10100, 0);
        makes(x, "e2", 0, 0);
        makes(x, "e6", 0, 1);
        makes(x, "e5", 0, 0);
        makes(x, "z2", 0b00101, 1);
        makes(x, "z2", 0b01010, 1);
        makes(x, "z2", 0b10001, 0);
        makes(x, "t2x1", 0b00101, 1);
        makes(x, "t2x1", 0b00011, 0);
        makes(x, "t2x1", 0b10101, 0);
        makes(x, "t2x2", 0b10011, 1);
        makes(x, "t2x2", 0b10001, 0);
        makes(x, "t2x2", 0b00011, 0);
        makes(x, "a5", 0b11111, 1);
        makes(x, "a5", 0b111111, BAD);
        makes(x, "a5", 1 << 30, BAD);
        makes(x, "a5", LOW, BAD);
        makes(x, "a5", -1, BAD);
        makes(x, "a6", 0b11111, NOT);
        makes(x, "a6", 0b111111, BAD);
        due("17: no such plan", x.makes(4, 0), BAD);
        makes(Lists.full(), "a30", (1 << 30) - 1, 1);
        makes(Lists.full(), "a30", 1 << 30, BAD);
        makes(Lists.full(), "a30", HIGH, BAD);
    }

    private static void sum(DrawnList x, String text, int draw, long above, long below) {
        Lists.plan(x, 0, text);
        due("18: sum by " + text + ", above", x.sum(0, draw, 0), above);
        due("18: sum by " + text + ", below", x.sum(0, draw, 1), below);
    }

    private static void promise18and19() {
        DrawnList x = Lists.clustered(3, 2);
        for (int i = 0; i < 4; i++) {
            x.answer(i, 10 * i + 1, 0);
        }
        sum(x, "a3", 0b10011, 20, 1);
        sum(x, "a3", 0b00111, 55, 1);
        sum(x, "a2", 0b00011, 30, 1);
        sum(x, "a4", 0b01111, 80, 1);
        sum(x, "a4", 0b11011, 215, 4);
        sum(x, "l1,1,0,0", 0b00011, 13, 1);
        sum(x, "e3", 0b01001, 96, 1);
        sum(x, "e3", 0b10010, 33, 1);
        // Sizes 1 to 5: a step of 7, the fourth name is on four of its points.
        sum(x, "z2", 0b01010, 371, 4);
        sum(x, "t1x2", 0b00011, 36, 1);
        sum(x, "t1x2", 0b11000, 62, 1);
        sum(x, "t2x1", 0b10100, 63, 1);
        Lists.plan(x, 0, "a2");
        due("18: a draw that it cannot make", x.sum(0, 0b00111, 0), LONG_BAD);
        due("18: names that there are not", x.sum(0, 0b100001, 0), LONG_BAD);
        due("18: no such part", x.sum(0, 0b00011, 2), LONG_BAD);
        due("18: no such plan", x.sum(4, 0b00011, 0), LONG_BAD);
        due("18: the plan cannot be", x.sum(1, 0b00011, 0), LONG_NOT);
        due("18: bad comes ahead of not", x.sum(1, 0b00011, 2), LONG_BAD);
        due("18: bad comes ahead of not", x.sum(1, 0b100000, 0), LONG_BAD);
        due("19: none", x.silent(0), 0);
        due("19: one", x.silent(0b11111), 1);
        due("19: one", x.silent(0b10000), 1);
        due("19: none", x.silent(0b01111), 0);
        x.answer(0, -1, 1);
        due("19: it will not tell", x.silent(0b11111), 2);
        x.asOf(0);
        due("19: as of a day", x.silent(0b11111), 1);
        due("19: wrong", x.silent(0b100000), BAD);
        due("19: wrong", x.silent(-1), BAD);
    }

    private static void spread(DrawnList x, String text, long above, long below) {
        Lists.plan(x, 0, text);
        due("20: spread of " + text + ", above", x.spread(0, 0), above);
        due("20: spread of " + text + ", below", x.spread(0, 1), below);
    }

    private static void promise20() {
        DrawnList x = Lists.layered(2, 3);
        int[] values = {0, 10, 1, 2, 9};
        for (int i = 0; i < 5; i++) {
            x.answer(i, values[i], 0);
        }
        // One of all: sums are five times a value, their mean is 22.
        spread(x, "a1", 25 * 186 / 5 - 22 * 22, 1);
        spread(x, "a5", 0, 1);
        spread(x, "l1,0,0,0", 100, 1);
        spread(x, "l0,1,0,0", 114, 1);
        spread(x, "l1,1,0,0", 214, 1);
        spread(x, "l2,3,0,0", 0, 1);
        spread(x, "l0,2,0,0", 57, 2);
        DrawnList one = Lists.layered(1);
        one.answer(0, 9, 0);
        spread(one, "a1", 0, 1);
        x.name(1, 0, 1, 0);
        Lists.plan(x, 0, "a1");
        due("20: a value lacks", x.spread(0, 0), LONG_NOT);
        Lists.plan(x, 0, "l0,1,0,0");
        due("20: a value lacks in the layer", x.spread(0, 0), LONG_NOT);
        spread(x, "l1,0,0,0", 100, 1);
        x.answer(5, 4, 399);
        for (String text : new String[] {"e1", "z1", "t1x1", "a7", "a0", "l3,0,0,0", "a"}) {
            Lists.plan(x, 0, text);
            due("20: no spread of " + text, x.spread(0, 0), LONG_NOT);
        }
        due("20: no such part", x.spread(0, 2), LONG_BAD);
        due("20: no such plan", x.spread(4, 0), LONG_BAD);
        due("20: no such plan", x.spread(-1, 0), LONG_BAD);
        DrawnList far = Lists.full();
        for (int i = 0; i < 30; i++) {
            far.answer(i, i % 2 * 10000, 0);
        }
        spread(far, "a1", 900L * 50000000 - 150000L * 150000, 1);
    }

    private static void promise21() {
        DrawnList x = Lists.layered(3, 3);
        for (int i = 0; i < 6; i++) {
            x.answer(i, i * i, 0);
        }
        Lists.plan(x, 0, "a3");
        Lists.plan(x, 1, "l1,2,0,0");
        Lists.plan(x, 2, "a6");
        Lists.plan(x, 3, "e1");
        due("21: greater", x.wider(0, 1), Long.compare(x.spread(0, 0) * x.spread(1, 1), x.spread(1, 0) * x.spread(0, 1)));
        due("21: greater", x.wider(0, 2), 1);
        due("21: less", x.wider(2, 0), -1);
        due("21: as great", x.wider(0, 0), 0);
        due("21: one has none", x.wider(0, 3), NOT);
        due("21: the other has none", x.wider(3, 0), NOT);
        due("21: no such plan", x.wider(4, 0), BAD);
        due("21: no such plan", x.wider(0, -1), BAD);
        due("21: bad comes ahead of not", x.wider(3, 4), BAD);
        Lists.plan(x, 3, "a03");
        due("21: as great, by another text", x.wider(0, 3), 0);
        // Whole parts alike, rests apart: 4/3 against 1 and 3/2 by layers of their own.
        DrawnList y = Lists.layered(3, 2, 2);
        int[] values = {0, 0, 1, 0, 1, 0, 1};
        for (int i = 0; i < values.length; i++) {
            y.answer(i, values[i], 0);
        }
        Lists.plan(y, 0, "l1,0,0,0");
        Lists.plan(y, 1, "l0,1,0,0");
        Lists.plan(y, 2, "l2,1,0,0");
        Lists.plan(y, 3, "l0,1,1,0");
        due("21: 2 against 1", y.wider(0, 1), 1);
        due("21: 3/2 against 1", y.wider(2, 1), 1);
        due("21: 1 against 3/2", y.wider(1, 2), -1);
        due("21: 2 against 2", y.wider(0, 3), 0);
    }

    private static void edge(DrawnList x, String text, long least, long greatest) {
        Lists.plan(x, 0, text);
        due("22: least of " + text, x.edge(0, 0), least);
        due("22: greatest of " + text, x.edge(0, 1), greatest);
    }

    private static void promise22() {
        DrawnList x = Lists.sized(2, 3, 1);
        edge(x, "e2", 0, 0);
        edge(x, "z1", 0, 0);
        x.answer(0, 5, 0);
        x.answer(1, 8, 0);
        x.answer(2, 7, 0);
        edge(x, "e2", 16, 24);
        edge(x, "e3", 15, 24);
        edge(x, "e4", 0, 32);
        edge(x, "e1", 20, 20);
        edge(x, "z1", 15, 42);
        // Points 0 to 2: 5 by 2/3 and 8 by 3/3; the same; 8 and 7 by 1/3.
        edge(x, "z2", 15, 29);
        x.answer(1, -1, 1);
        edge(x, "e2", 0, 24);
        edge(x, "z2", 7, 21);
        for (String text : new String[] {"a1", "l1,0,0,0", "t1x1", "e0", "e31", "z0", "z7", "e"}) {
            Lists.plan(x, 0, text);
            due("22: no edge of " + text, x.edge(0, 0), LONG_NOT);
        }
        due("22: no such edge", x.edge(0, 2), LONG_BAD);
        due("22: no such edge", x.edge(0, -1), LONG_BAD);
        due("22: no such plan", x.edge(4, 0), LONG_BAD);
    }

    private static void promise23() {
        DrawnList x = new DrawnList();
        due("23: layer", x.known(0, 3, 30000), 0);
        due("23: what it was", x.known(0, 3, 0), 30000);
        due("23: mark", x.known(1, 2, 12), 0);
        due("23: what it was", x.known(1, 2, 13), 12);
        due("23: layers and marks are apart", x.known(0, 2, 1), 0);
        int[][] wrong = {{0, 4, 0}, {0, -1, 0}, {1, 3, 0}, {1, -1, 0}, {2, 0, 0}, {-1, 0, 0}, {0, 0, -1}, {0, 0, 30001}, {1, 2, 30001}, {HIGH, LOW, LOW}};
        for (int[] w : wrong) {
            due("23: wrong", x.known(w[0], w[1], w[2]), BAD);
        }
        due("23: wrong ones change nothing", x.known(1, 2, 0), 13);
    }

    /** Three names of layer 0, marks 0, 0, 1; each told 1000. */
    private static DrawnList led() {
        DrawnList x = new DrawnList();
        x.name(0, 0, 1, 0);
        x.name(0, 0, 1, 0);
        x.name(0, 0, 1, 1);
        for (int i = 0; i < 3; i++) {
            x.answer(i, 1000, 0);
        }
        return x;
    }

    private static void promise24() {
        DrawnList x = led();
        Lists.plan(x, 0, "a3");
        x.known(0, 0, 100);
        x.known(1, 0, 61);
        x.known(1, 1, 40);
        due("24: at first", x.weight(0, 7, 0, 0), 1000);
        // 100 by thirds: 34, 33, 33; then 61 by 34 and 33: 30.96 and 30.04; 40 for the one.
        due("24: one round", x.weight(0, 7, 1, 0), 31);
        due("24: one round", x.weight(0, 7, 1, 1), 30);
        due("24: one round", x.weight(0, 7, 1, 2), 40);
        Lists.plan(x, 0, "a2");
        due("24: by the share", x.weight(0, 3, 0, 0), 1500);
        due("24: not in the draw", x.weight(0, 3, 0, 2), 0);
        due("24: not in the draw", x.weight(0, 3, 9, 2), 0);
        DrawnList y = led();
        Lists.plan(y, 0, "a3");
        y.answer(1, -1, 1);
        due("24: silent", y.weight(0, 7, 0, 1), 0);
        y.known(0, 0, 1);
        due("24: what is left goes to the least", y.weight(0, 7, 0, 0), 1000);
        y.known(1, 0, 1);
        y.known(1, 1, 1);
        due("24: what is left goes to the least", y.weight(0, 7, 1, 0), 1);
        due("24: none together, so not led", y.weight(0, 7, 1, 2), 0);
        y.known(0, 0, 0);
        due("24: led to nothing", y.weight(0, 7, 1, 0), 0);
        DrawnList z = Lists.sized(7, 3);
        Lists.plan(z, 0, "z1");
        z.answer(0, 1, 0);
        z.answer(1, 1, 0);
        due("24: cut", z.weight(0, 1, 0, 0), 1428);
        due("24: cut", z.weight(0, 2, 0, 1), 3333);
        z.known(0, 0, 30000);
        due("24: the whole sum", z.weight(0, 2, 30, 1), 0);
        z.known(1, 0, 30000);
        due("24: the whole sum", z.weight(0, 2, 30, 1), 30000);
        due("24: rounds", z.weight(0, 1, 31, 0), BAD);
        due("24: rounds", z.weight(0, 1, -1, 0), BAD);
        due("24: no such name", z.weight(0, 1, 0, 2), BAD);
        due("24: no such name", z.weight(0, 1, 0, -1), BAD);
        due("24: a draw that it cannot make", z.weight(0, 3, 0, 0), BAD);
        due("24: names that there are not", z.weight(0, 4, 0, 0), BAD);
        due("24: no such plan", z.weight(4, 1, 0, 0), BAD);
        due("24: the plan cannot be", z.weight(1, 1, 0, 0), NOT);
        due("24: bad comes ahead of not", z.weight(1, 1, 31, 0), BAD);
    }

    private static void promise25() {
        DrawnList x = led();
        Lists.plan(x, 0, "a3");
        x.known(0, 0, 100);
        x.known(0, 2, 5);
        x.known(1, 0, 61);
        x.known(1, 1, 40);
        due("25: miss at first", x.led(0, 7, 0, 0), 2900 + 5 + 1939 + 960);
        due("25: led sum at first", x.led(0, 7, 0, 1), 3000);
        due("25: miss behind a round", x.led(0, 7, 1, 0), 1 + 5);
        due("25: led sum behind a round", x.led(0, 7, 1, 1), 101);
        x.answer(0, 1, 1);
        x.answer(1, 0, 1);
        x.answer(2, 49, 1);
        due("25: led sum, cut", x.led(0, 7, 1, 1), (31 + 40 * 49) / 1000);
        DrawnList y = Lists.sized(1);
        Lists.plan(y, 0, "a1");
        y.known(0, 0, 1);
        y.known(1, 0, 1);
        y.answer(0, 999, 0);
        due("25: led sum, just below one", y.led(0, 1, 1, 1), 0);
        y.answer(0, 1000, 0);
        due("25: led sum, just one", y.led(0, 1, 1, 1), 1);
        x.known(1, 0, 0);
        due("25: nothing of a mark", x.led(0, 7, 2, 0), 60 + 5);
        due("25: rounds", x.led(0, 7, 31, 0), BAD);
        due("25: rounds", x.led(0, 7, -1, 0), BAD);
        due("25: no such thing", x.led(0, 7, 0, 2), BAD);
        due("25: no such thing", x.led(0, 7, 0, -1), BAD);
        due("25: a draw that it cannot make", x.led(0, 3, 0, 0), BAD);
        due("25: names that there are not", x.led(0, 15, 0, 0), BAD);
        due("25: no such plan", x.led(-1, 7, 0, 0), BAD);
        due("25: the plan cannot be", x.led(1, 7, 0, 0), NOT);
        due("25: bad comes ahead of not", x.led(1, 7, 0, 2), BAD);
    }

    private static void best(DrawnList x, int draw, int price, int set, int gain, int cost) {
        due("27: clusters for " + price, x.again(0, draw, price, 0), set);
        due("27: gain for " + price, x.again(0, draw, price, 1), gain);
        due("27: cost for " + price, x.again(0, draw, price, 2), cost);
    }

    private static void promise26and27() {
        DrawnList x = Lists.clustered(1, 2, 3);
        due("26: what it was", x.cost(0, 100), 5);
        due("26: what it was", x.cost(0, 0), 100);
        due("26: what it was", x.cost(7, 9), 5);
        int[][] wrong = {{-1, 0}, {8, 0}, {0, -1}, {0, 101}, {LOW, HIGH}};
        for (int[] w : wrong) {
            due("26: wrong", x.cost(w[0], w[1]), BAD);
        }
        due("26: wrong ones change nothing", x.cost(0, 4), 0);
        Lists.plan(x, 0, "a6");
        x.cost(1, 6);
        x.cost(2, 7);
        best(x, 63, 0, 0, 0, 0);
        best(x, 63, 3, 0, 0, 0);
        best(x, 63, 4, 1, 1000, 4);
        best(x, 63, 6, 2, 2000, 6);
        best(x, 63, 9, 4, 3000, 7);
        // 4 and 6 together gain as much as 7 alone, for more.
        best(x, 63, 10, 4, 3000, 7);
        best(x, 63, 11, 5, 4000, 11);
        best(x, 63, 16, 6, 5000, 13);
        best(x, 63, 800, 7, 6000, 17);
        x.answer(3, 1, 0);
        // Now clusters 1 and 2 gain alike.
        best(x, 63, 7, 2, 2000, 6);
        x.cost(2, 6);
        best(x, 63, 7, 2, 2000, 6);
        x.cost(2, 5);
        best(x, 63, 7, 4, 2000, 5);
        x.answer(0, 1, 0);
        x.cost(0, 0);
        best(x, 63, 800, 6, 4000, 11);
        x.cost(1, 0);
        best(x, 63, 0, 2, 2000, 0);
        Lists.plan(x, 0, "a4");
        best(x, 0b110110, 800, 6, 6000, 5);
        Lists.plan(x, 0, "t1x2");
        best(x, 0b110000, 800, 4, 9000, 5);
        Lists.plan(x, 0, "z1");
        best(x, 0b100000, 800, 4, 3500, 5);
        best(x, 0b010000, 800, 4, 4200, 5);
        best(x, 0b000100, 800, 2, 7000, 0);
        Lists.plan(x, 0, "z2");
        due("27: each is cut", x.again(0, 0b010010, 800, 1), 10 * 1000 / 2 + 10 * 1000 / 5);
        due("27: price", x.again(0, 0b010010, 801, 0), BAD);
        due("27: price", x.again(0, 0b010010, -1, 0), BAD);
        due("27: no such thing", x.again(0, 0b010010, 0, 3), BAD);
        due("27: no such thing", x.again(0, 0b010010, 0, -1), BAD);
        due("27: a draw that it cannot make", x.again(0, 63, 0, 0), BAD);
        due("27: names that there are not", x.again(0, 64, 0, 0), BAD);
        due("27: no such plan", x.again(4, 1, 0, 0), BAD);
        due("27: the plan cannot be", x.again(1, 1, 0, 0), NOT);
        due("27: bad comes ahead of not", x.again(1, 1, 801, 0), BAD);
    }

    private static void promise28and29() {
        DrawnList x = new DrawnList();
        due("28: none", x.sheet(0, 0, 0), 0);
        due("28: most", x.sheet(3, 2, 90), 90);
        due("28: all are 0", x.get(3, 2, 89), 0);
        x.put(3, 2, 89, 5);
        due("28: a new row", x.sheet(3, 2, 90), 90);
        due("28: all are 0 again", x.get(3, 2, 89), 0);
        int[][] wrong = {{-1, 0, 0}, {4, 0, 0}, {0, -1, 0}, {0, 3, 0}, {0, 0, 91}, {0, 0, HIGH}, {4, 0, -1}, {0, 3, -1}};
        for (int[] w : wrong) {
            due("28: wrong", x.sheet(w[0], w[1], w[2]), BAD);
        }
        due("28: bad is no finding", x.count(8), 0);
        due("28: below 0", x.sheet(3, 0, -1), SIZE);
        due("28: below 0", x.sheet(3, 0, LOW), SIZE);
        due("28: a finding", x.count(8), 5);
        due("28: it stays as it was", x.get(3, 2, 89), 0);
        due("28: it stays as it was", x.lose(3), 90);
        due("29: lost already", x.lose(3), NULL);
        due("29: a finding", x.count(8), 1);
        due("29: an empty one is not lost", x.lose(0), 0);
        due("29: wrong", x.lose(4), BAD);
        due("29: wrong", x.lose(-1), BAD);
        x.sheet(1, 1, 4);
        x.put(1, 1, 2, 3);
        x.lose(1);
        x.sheet(1, 1, 4);
        due("29: what was lost does not come back", x.get(1, 1, 2), 0);
    }

    private static void promise30and31() {
        DrawnList x = new DrawnList();
        due("30: lost", x.put(0, 0, 0, 0), NULL);
        due("31: lost", x.get(1, 1, 0), LOW);
        due("31: a finding", x.count(8), 1);
        for (int form = 0; form < 3; form++) {
            x.sheet(form, form, 2);
        }
        int[] puts = {127, 128, 255, 256, -1, 32767, 32768, 65535, 65536, LOW, HIGH};
        for (int v : puts) {
            for (int form = 0; form < 3; form++) {
                due("30: put", x.put(form, form, 1, v), 1);
                due("31: the lowest bits", x.get(form, form, 1), form == 0 ? (byte) v : form == 1 ? (short) v : v);
                due("31: the other item stays", x.get(form, form, 0), 0);
            }
        }
        due("30: another form", x.put(0, 1, 0, 0), CAST);
        due("30: cast comes ahead of index", x.put(0, 2, 9, 0), CAST);
        due("30: no such item", x.put(0, 0, 2, 0), INDEX);
        due("30: no such item", x.put(0, 0, -1, 0), INDEX);
        due("30: no such item", x.put(0, 0, HIGH, 0), INDEX);
        due("30: a finding", x.count(8), 2);
        due("31: another form", x.get(0, 1, 0), LOW);
        due("31: a finding", x.count(8), 3);
        due("31: cast comes ahead of index", x.get(0, 1, 9), LOW);
        due("31: a finding", x.count(8), 3);
        due("31: no such item", x.get(0, 0, 2), LOW);
        due("31: a finding", x.count(8), 2);
        due("31: no such item", x.get(0, 0, LOW), LOW);
        due("31: bad", x.get(4, 0, 0), LOW);
        due("31: bad", x.get(0, 3, 0), LOW);
        due("31: bad", x.get(-1, 0, 0), LOW);
        due("31: bad", x.get(0, -1, 0), LOW);
        due("30: bad", x.put(4, 0, 0, 0), BAD);
        due("30: bad", x.put(-1, 0, 0, 0), BAD);
        due("30: bad", x.put(0, 3, 0, 0), BAD);
        due("30: bad", x.put(3, -1, 0, 0), BAD);
        due("30: bad is no finding", x.count(8), 2);
        due("30: lost comes ahead of cast and index", x.put(3, 1, 9, 0), NULL);
    }

    private static void promise32() {
        DrawnList x = new DrawnList();
        x.sheet(0, 2, 5);
        x.sheet(1, 2, 3);
        x.sheet(2, 1, 5);
        for (int i = 0; i < 5; i++) {
            x.put(0, 2, i, 10 + i);
        }
        due("32: between sheets", x.copy(0, 1, 1, 0, 3), 1);
        due("32: came", x.get(1, 2, 0), 11);
        due("32: came", x.get(1, 2, 2), 13);
        due("32: upward within one", x.copy(0, 0, 0, 1, 4), 1);
        int[] up = {10, 10, 11, 12, 13};
        for (int i = 0; i < 5; i++) {
            due("32: as they were", x.get(0, 2, i), up[i]);
        }
        due("32: downward within one", x.copy(0, 2, 0, 0, 3), 1);
        int[] down = {11, 12, 13, 12, 13};
        for (int i = 0; i < 5; i++) {
            due("32: as they were", x.get(0, 2, i), down[i]);
        }
        due("32: none, at the end", x.copy(0, 5, 1, 3, 0), 1);
        int[][] beyond = {{0, 0, 4}, {3, 0, 3}, {-1, 0, 1}, {0, -1, 1}, {0, 0, -1}, {6, 0, 0}, {0, 4, 0},
            {HIGH, 0, 1}, {0, HIGH, 1}, {1, 1, HIGH}, {0, 0, LOW}, {LOW, LOW, LOW}, {HIGH, HIGH, HIGH}, {0, 3, 1}};
        for (int[] b : beyond) {
            due("32: beyond", x.copy(0, b[0], 1, b[1], b[2]), INDEX);
        }
        due("32: a finding", x.count(8), 2);
        due("32: unlike forms", x.copy(0, 0, 2, 0, 1), STORE);
        due("32: store comes ahead of index", x.copy(0, -1, 2, 0, 1), STORE);
        due("32: unlike forms, none", x.copy(0, 0, 2, 0, 0), STORE);
        due("32: a finding", x.count(8), 4);
        due("32: lost", x.copy(3, 0, 0, 0, 0), NULL);
        due("32: lost", x.copy(2, 0, 3, 9, 9), NULL);
        due("32: a finding", x.count(8), 1);
        due("32: bad", x.copy(4, 0, 3, 0, 0), BAD);
        due("32: bad", x.copy(3, 0, -1, 0, 0), BAD);
        due("32: nothing was changed", x.get(1, 2, 2), 13);
    }

    private static void promise33() {
        DrawnList x = Lists.full();
        due("33: lost", x.write(0, 1), NULL);
        x.sheet(0, 0, 4);
        due("33: fewer than items", x.write(0, 1 << 29 | 1 << 3), 2);
        due("33: by numbers", x.get(0, 0, 0), 3);
        due("33: by numbers", x.get(0, 0, 1), 29);
        due("33: the rest stays", x.get(0, 0, 2), 0);
        due("33: more than items", x.write(0, 0b1111110), 4);
        due("33: the last that had room", x.get(0, 0, 3), 4);
        due("33: none", x.write(0, 0), 0);
        due("33: it stays", x.get(0, 0, 0), 1);
        x.sheet(0, 2, 90);
        due("33: all", x.write(0, (1 << 30) - 1), 30);
        due("33: the last", x.get(0, 2, 29), 29);
        x.sheet(0, 1, 0);
        due("33: no items", x.write(0, 7), 0);
        due("33: no such names", x.write(0, 1 << 30), BAD);
        due("33: no such names", x.write(0, -1), BAD);
        due("33: no such sheet", x.write(4, 1), BAD);
        due("33: no such sheet", x.write(-1, 1), BAD);
        due("33: bad comes ahead of null", x.write(3, LOW), BAD);
        DrawnList y = Lists.sized(1, 1);
        y.sheet(0, 0, 9);
        due("33: no such names", y.write(0, 4), BAD);
    }

    private static void promise34() {
        DrawnList x = Lists.clustered(1, 0, 2);
        x.answer(0, 1, 5);
        x.answer(1, 1, 6);
        x.answer(1, -1, 7);
        x.asOf(6);
        Lists.plan(x, 0, "a");
        Lists.plan(x, 1, "a1");
        Lists.plan(x, 2, "a12");
        Lists.plan(x, 3, "l1,2");
        x.lose(0);
        int[] want = {3, 2, 3, 6, 1, 2, 3, 4, 1, 2};
        for (int what = 0; what < want.length; what++) {
            due("34: count(" + what + ")", x.count(what), want[what]);
        }
        x.asOf(399);
        due("34: one tells no more", x.count(1), 1);
        due("34: wrong", x.count(10), BAD);
        due("34: wrong", x.count(-1), BAD);
        due("34: wrong", x.count(LOW), BAD);
    }

    private static void promise35() {
        DrawnList x = new DrawnList();
        long h = 17;
        for (int k = 0; k < 9; k++) {
            h = 31 * h + (k == 3 ? 399 : 0);
        }
        for (int plan = 0; plan < 4; plan++) {
            h = 31 * h;
            h = 31 * h;
            h = 31 * h + LONG_NOT;
        }
        due("35: empty", x.digest(), h);
        x.lose(0);
        due("35: findings do not count", x.digest(), h);
        DrawnList y = Lists.sized(4);
        y.answer(0, 6, 1);
        Lists.plan(y, 0, "a1");
        long g = 17;
        for (int part : new int[] {1, 1, 1, 399, 2, 0, 0, 0, 1, 0, 0, 4, 0, 6, -1, 1, 1, 1, 1, 1}) {
            g = 31 * g + part;
        }
        for (int plan = 1; plan < 4; plan++) {
            g = 31 * g;
            g = 31 * g;
            g = 31 * g + LONG_NOT;
        }
        due("35: one name, one plan", y.digest(), g);
        due("35: it changes nothing", y.digest(), g);
    }
}
