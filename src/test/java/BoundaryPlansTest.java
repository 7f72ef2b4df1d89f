/** Boundary cases of plans: the document's part 2 and promises 8 to 17, sentence by sentence. */
public final class BoundaryPlansTest extends Cases {
    public static void main(String[] args) {
        new BoundaryPlansTest().run();
    }

    void all() {
        fourPlans();
        eachOfFourPlans();
        upToTwentyBytes();
        waysOfAllAndLayers();
        waysOfEach();
        waysBySizes();
        waysInTwoSteps();
        figures();
        faults();
        canBeOfAllAndLayers();
        canBeOfOthers();
        draws();
        shares();
        lots();
        typeAndWipe();
        faultAndCan();
        drawsAndShare();
        both();
        width();
        lotsRefused();
        makes();
    }

    private void share(DrawnList x, int name, long above, long below) {
        due("share of " + name + ", above", x.share(0, name, 0), above);
        due("share of " + name + ", below", x.share(0, name, 1), below);
    }

    private void both(DrawnList x, int a, int b, long above, long below) {
        due("both " + a + " and " + b + ", above", x.both(0, a, b, 0), above);
        due("both " + a + " and " + b + ", below", x.both(0, a, b, 1), below);
        due("both the other way round", x.both(0, b, a, 0), above);
    }

    private void width(DrawnList x, int least, int most) {
        due("least width", x.width(0, 0), least);
        due("most width", x.width(0, 1), most);
    }

    private void makes(DrawnList x, int want, int... draws) {
        for (int draw : draws) {
            due("makes " + draw, x.makes(0, draw), want);
        }
    }

    private void fourPlans() {
        String words = "PLANS 0 .. 3 are texts of up to 20 bytes";
        of("Terms 2", words, "the first and the last, apart", () -> {
            DrawnList x = Lists.alike(3);
            Lists.plan(x, 0, "a1");
            Lists.plan(x, 3, "a2");
            due("draws of 0", x.draws(0), 3);
            due("width of 0", x.width(0, 0), 1);
            due("width of 3", x.width(3, 0), 2);
            due("fault of 1", x.fault(1), 0);
            due("wipe 3", x.wipe(3), 2);
            due("0 stays", x.can(0), 1);
        });
        for (int beyond : new int[] {-1, 4, LOW, HIGH}) {
            of("Terms 2", words, "there is no plan " + beyond, () -> {
                refused(BAD, "plan", x -> x.type(beyond, 'a'), x -> x.wipe(beyond), x -> x.fault(beyond), x -> x.can(beyond),
                        x -> x.width(beyond, 0), x -> x.lots(beyond, 1), x -> x.makes(beyond, 0));
                refused(LONG_BAD, "plan", x -> x.draws(beyond), x -> x.share(beyond, 0, 0), x -> x.both(beyond, 0, 1, 0));
            });
        }
    }

    private interface PlanCall {
        long on(DrawnList x, int plan);
    }

    /** The call is taken of plan 3 and BAD beyond both ends. */
    private void plansOf(String place, String words, long answer, PlanCall call) {
        of(place, words, "plans -1 and 4 are BAD, 3 is not", () -> {
            for (int beyond : new int[] {-1, 4, LOW, HIGH}) {
                refused("plan " + beyond, Lists::rich, x -> call.on(x, beyond), answer);
            }
            due("plan 3 is BAD", call.on(Lists.rich(), 3) == answer ? 1 : 0, 0);
        });
    }

    private void eachOfFourPlans() {
        plansOf("Promise 8", "A byte (0 to 255) comes behind a PLAN: how many. BAD; FULL.", BAD, (x, plan) -> x.type(plan, 'a'));
        plansOf("Promise 9", "A PLAN is empty: how many bytes it had. BAD.", BAD, DrawnList::wipe);
        plansOf("Promise 10", "The FAULT of a PLAN; NONE. BAD.", BAD, DrawnList::fault);
        plansOf("Promise 11", "Whether a PLAN CAN BE: 1, 0. BAD.", BAD, DrawnList::can);
        plansOf("Promise 12", "DRAWS of a PLAN. BAD; NOT: it cannot be.", LONG_BAD, DrawnList::draws);
        plansOf("Promise 13", "above (what = 0), below (1). BAD; NOT: the PLAN cannot be.", LONG_BAD, (x, plan) -> x.share(plan, 0, 0));
        plansOf("Promise 14", "SHARE of two unlike NAMES likewise. BAD; NOT.", LONG_BAD, (x, plan) -> x.both(plan, 0, 1, 0));
        plansOf("Promise 15", "at the most (1), over all ways. BAD; NOT.", BAD, (x, plan) -> x.width(plan, 0));
        plansOf("Promise 16", "A DRAW BY LOTS. BAD; NOT.", BAD, (x, plan) -> x.lots(plan, 1));
        plansOf("Promise 17", "Whether a PLAN can make a DRAW: 1, 0. BAD", BAD, (x, plan) -> x.makes(plan, 3));
    }

    /** Plan 0 of so many bytes, a figure each behind the first. */
    private static DrawnList typed(int bytes) {
        DrawnList x = new DrawnList();
        for (int k = 0; k < bytes; k++) {
            x.type(0, k == 0 ? 'a' : '1');
        }
        return x;
    }

    private void upToTwentyBytes() {
        String words = "PLANS 0 .. 3 are texts of up to 20 bytes";
        of("Terms 2", words, "the twentieth byte is taken", () -> {
            DrawnList x = typed(19);
            due("type", x.type(0, 255), 20);
            due("bytes", x.count(4), 20);
        });
        of("Terms 2", words, "one more is FULL", () -> refused("type", () -> typed(20), x -> x.type(0, '1'), FULL));
        of("Terms 2", words, "another plan is not full", () -> due("type", typed(20).type(1, '1'), 1));
        of("Terms 2", words, "wiped, it takes twenty again", () -> {
            DrawnList x = typed(20);
            due("wipe", x.wipe(0), 20);
            for (int k = 1; k <= 20; k++) {
                due("type", x.type(0, 'e'), k);
            }
            due("one more", x.type(0, 'e'), FULL);
        });
    }

    private void waysOfAllAndLayers() {
        String all = "a n: n of all NAMES, each set of n alike likely.";
        of("Terms 2", all, "one, all but one, all", () -> {
            DrawnList x = Lists.with(Lists.alike(5), "a1");
            makes(x, 1, 0b00001, 0b10000);
            makes(x, 0, 0, 0b00011);
            Lists.plan(x, 0, "a4");
            makes(x, 1, 0b11110, 0b01111);
            makes(x, 0, 0b11111, 0b00111);
            Lists.plan(x, 0, "a5");
            makes(x, 1, 0b11111);
            makes(x, 0, 0b01111, 0);
        });
        String layers = "l n , n , n , n: so many of LAYER 0, 1, 2, 3, each such set alike likely (LAYERS apart).";
        of("Terms 2", layers, "none of a layer, all of a layer, one more and one less", () -> {
            DrawnList x = Lists.with(Lists.layered(2, 2, 0, 2), "l0,2,0,1");
            makes(x, 1, 0b011100, 0b101100);
            makes(x, 0, 0b011101, 0b010100, 0b111100, 0b001100, 0b011000);
            share(x, 0, 0, 1);
            share(x, 2, 1, 1);
            share(x, 5, 1, 2);
            both(x, 0, 5, 0, 1);
            both(x, 2, 5, 1, 2);
        });
        of("Terms 2", layers, "two of one layer, two of unlike ones", () -> {
            DrawnList x = Lists.with(Lists.layered(4, 5, 0, 3), "l2,3,0,1");
            both(x, 0, 3, 1, 6);
            both(x, 0, 4, 3, 10);
            both(x, 4, 8, 3, 10);
            both(x, 8, 11, 1, 5);
            both(x, 9, 11, 0, 1);
        });
    }

    private void waysOfEach() {
        String words = "e n: each n-th: a first one 0 to n - 1, each alike likely, and all NAMES whose number modulo n is that.";
        of("Terms 2", words, "the first of the first ones and the last", () -> {
            DrawnList x = Lists.with(Lists.alike(7), "e3");
            makes(x, 1, 0b1001001, 0b0010010, 0b0100100);
            makes(x, 0, 0, 0b0001001, 0b1001000, 0b1001011);
            both(x, 2, 5, 1, 3);
            both(x, 0, 6, 1, 3);
            both(x, 2, 6, 0, 1);
        });
        of("Terms 2", words, "of n 1 all names", () -> {
            DrawnList x = Lists.with(Lists.full(), "e1");
            makes(x, 1, ALL_THIRTY);
            makes(x, 0, 0, ALL_THIRTY - 1);
            width(x, 30, 30);
            share(x, 29, 1, 1);
        });
        of("Terms 2", words, "n as many as names", () -> {
            DrawnList x = Lists.with(Lists.alike(4), "e4");
            makes(x, 1, 1, 2, 4, 8);
            makes(x, 0, 0, 3);
            width(x, 1, 1);
        });
        of("Terms 2", words, "one more than names: a draw of none", () -> {
            DrawnList x = Lists.with(Lists.alike(4), "e5");
            makes(x, 1, 1, 8, 0);
            width(x, 0, 1);
            share(x, 3, 1, 5);
        });
        of("Terms 2", words, "one less than names: the last one goes with the first", () -> {
            DrawnList x = Lists.with(Lists.alike(4), "e3");
            makes(x, 1, 0b1001, 2, 4);
            makes(x, 0, 1, 8, 0);
            both(x, 0, 3, 1, 3);
            both(x, 0, 1, 0, 1);
        });
        of("Terms 2", words, "thirty of thirty", () -> {
            DrawnList x = Lists.with(Lists.full(), "e30");
            makes(x, 1, 1, 1 << 29);
            makes(x, 0, 0, 3);
            share(x, 29, 1, 30);
        });
    }

    private void waysBySizes() {
        String cut = "I is all SIZES by n, cut";
        of("Terms 2", cut, "ten and eleven by five, fourteen and fifteen", () -> {
            due("10", Lists.with(Lists.sized(4, 6), "z5").draws(0), 2);
            due("11", Lists.with(Lists.sized(5, 6), "z5").draws(0), 2);
            due("14", Lists.with(Lists.sized(8, 6), "z5").draws(0), 2);
            due("15", Lists.with(Lists.sized(9, 6), "z5").draws(0), 3);
        });
        of("Terms 2", cut, "what is left behind n I is on no draw", () -> {
            DrawnList x = Lists.with(Lists.sized(3, 3, 3, 2), "z3");
            share(x, 2, 1, 1);
            share(x, 3, 0, 1);
            makes(x, 1, 0b0111);
            makes(x, 0, 0b1111, 0b1011);
        });
        of("Terms 2", cut, "the point n I itself is on no draw", () -> {
            DrawnList x = Lists.with(Lists.told(Lists.sized(6, 1), 6, 9), "z2");
            width(x, 1, 1);
            makes(x, 1, 1);
            makes(x, 0, 2, 3);
            share(x, 1, 0, 1);
            both(x, 0, 1, 0, 1);
            due("greatest sum", x.edge(0, 1), 6);
        });
        of("Terms 2", cut, "a name lies ahead of n I with its first point alone", () -> {
            DrawnList x = Lists.with(Lists.sized(3, 3, 2, 3), "z3");
            share(x, 3, 1, 3);
            share(x, 2, 2, 3);
            makes(x, 1, 0b0111, 0b1011);
            both(x, 2, 3, 0, 1);
        });
        String point = "a point u 0 to I - 1, each alike likely: NAMES on which points u and j I lie, j 0 to n - 1";
        of("Terms 2", point, "the first point, the last one", () -> {
            DrawnList x = Lists.with(Lists.sized(1, 3, 3, 1), "z2");
            // I is 4: points 0 and 4; 1 and 5; 2 and 6; 3 and 7.
            makes(x, 1, 0b0101, 0b0110, 0b1010);
            makes(x, 0, 0b1001, 0b0011, 0b1100, 0);
            share(x, 0, 1, 4);
            share(x, 1, 3, 4);
            share(x, 3, 1, 4);
            both(x, 0, 2, 1, 4);
            both(x, 1, 2, 1, 2);
            both(x, 1, 3, 1, 4);
            both(x, 0, 3, 0, 1);
        });
        of("Terms 2", point, "one step: one name by its size", () -> {
            DrawnList x = Lists.with(Lists.sized(20, 1), "z1");
            share(x, 0, 20, 21);
            share(x, 1, 1, 21);
            width(x, 1, 1);
            makes(x, 1, 1, 2);
            makes(x, 0, 0, 3);
        });
        of("Terms 2", point, "the longest line", () -> {
            DrawnList x = new DrawnList();
            for (int i = 0; i < 30; i++) {
                x.name(0, 0, 20, 0);
            }
            Lists.plan(x, 0, "z1");
            due("draws", x.draws(0), 600);
            share(x, 29, 1, 30);
            Lists.plan(x, 0, "z99");
            due("draws", x.draws(0), 6);
            // 99 steps of 6 end ahead of point 594.
            share(x, 29, 1, 1);
            width(x, 30, 30);
        });
        String once = "(a NAME is drawn once, though several lie on it)";
        of("Terms 2", once, "of a size less than I, as I, more than I", () -> {
            DrawnList x = Lists.with(Lists.sized(3, 4, 5), "z3");
            share(x, 0, 3, 4);
            share(x, 1, 1, 1);
            share(x, 2, 1, 1);
        });
        of("Terms 2", once, "all points on one", () -> {
            DrawnList x = Lists.with(Lists.sized(9, 1), "z5");
            width(x, 1, 2);
            makes(x, 1, 1, 3);
            makes(x, 0, 2, 0);
            share(x, 0, 1, 1);
            share(x, 1, 1, 2);
        });
        of("Terms 2", once, "more points than the length of all names but one", () -> {
            DrawnList x = Lists.with(Lists.sized(20), "z20");
            due("draws", x.draws(0), 1);
            width(x, 1, 1);
            makes(x, 1, 1);
        });
    }

    private void waysInTwoSteps() {
        String have = "so many of the CLUSTERS that have NAMES, each set alike likely";
        of("Terms 2", have, "those without names do not count", () -> {
            DrawnList x = Lists.with(Lists.clustered(0, 1, 0, 0, 1, 0, 0, 1), "t2x1");
            due("draws", x.draws(0), 3);
            share(x, 0, 2, 3);
            makes(x, 1, 3, 5, 6);
            makes(x, 0, 1, 7, 0);
        });
        of("Terms 2", have, "one cluster, all eight", () -> {
            DrawnList x = Lists.with(Lists.clustered(1, 1, 1, 1, 1, 1, 1, 1), "t8x1");
            due("draws of all", x.draws(0), 1);
            makes(x, 1, 255);
            Lists.plan(x, 0, "t1x1");
            due("draws of one", x.draws(0), 8);
            share(x, 7, 1, 8);
            both(x, 0, 7, 0, 1);
        });
        of("Terms 2", have, "clusters are alike likely, whatever ways there are in them", () -> {
            DrawnList x = Lists.with(Lists.clustered(1, 4), "t1x2");
            due("draws", x.draws(0), 1 + 6);
            share(x, 0, 1, 2);
            share(x, 1, 1, 4);
            both(x, 1, 2, 1, 12);
        });
        of("Terms 2", have, "asked again: all eight, then seven of them", () -> {
            DrawnList x = Lists.with(Lists.clustered(2, 2, 2, 2, 2, 2, 2, 2), "t8x1");
            due("draws", x.draws(0), 256);
            due("draws once more", x.draws(0), 256);
            Lists.plan(x, 0, "t7x1");
            due("draws of seven", x.draws(0), 8 * 128);
            due("draws of seven once more", x.draws(0), 8 * 128);
        });
        of("Terms 2", have, "two of one cluster, two of unlike ones", () -> {
            DrawnList x = Lists.with(Lists.clustered(4, 5, 3), "t2x3");
            both(x, 0, 3, 1, 3);
            both(x, 0, 4, 3, 20);
            both(x, 4, 8, 1, 5);
            both(x, 9, 11, 2, 3);
            both(x, 0, 11, 1, 4);
        });
        String all = "of each so many of its NAMES (all, if it has no more), each set alike likely";
        of("Terms 2", all, "one more than it has, as many, one less", () -> {
            DrawnList x = Lists.with(Lists.clustered(2, 3, 4), "t3x3");
            due("draws", x.draws(0), 4);
            share(x, 0, 1, 1);
            share(x, 2, 1, 1);
            share(x, 5, 3, 4);
            both(x, 0, 1, 1, 1);
            both(x, 5, 6, 1, 2);
            both(x, 0, 5, 3, 4);
            width(x, 8, 8);
            makes(x, 1, 0b011111111, 0b111011111);
            makes(x, 0, 0b111111111, 0b001111111, 0b011111110, 0b011101111);
        });
        of("Terms 2", all, "ninety-nine of thirty", () -> {
            DrawnList x = Lists.with(Lists.alike(30), "t1x99");
            due("draws", x.draws(0), 1);
            makes(x, 1, ALL_THIRTY);
            makes(x, 0, 0, ALL_THIRTY / 2);
            due("lots", x.lots(0, 3), ALL_THIRTY);
        });
        of("Terms 2", all, "each set of it counts", () -> {
            DrawnList x = Lists.with(Lists.clustered(4, 3, 1), "t2x2");
            due("draws", x.draws(0), 6 * 3 + 6 + 3);
            makes(x, 1, 0b0110011, 0b10000011, 0b11100000);
            makes(x, 0, 0b0000011, 0b10110011, 0b0010011, 0b1110000);
            width(x, 3, 4);
        });
    }

    private void fault(String text, int want) {
        due("fault of '" + text + "'", Lists.planned(text).fault(0), want);
    }

    private void figures() {
        String words = "Numbers are of one or two figures.";
        for (String letter : new String[] {"a", "e", "z"}) {
            of("Terms 2", words, "none, one, two, three of " + letter, () -> {
                fault(letter, 1);
                fault(letter + "1", NONE);
                fault(letter + "12", NONE);
                fault(letter + "123", 3);
            });
        }
        of("Terms 2", words, "none, one, two, three of l, at each of its places", () -> {
            String[] heads = {"l", "l1,", "l1,22,", "l1,22,3,"};
            for (int k = 0; k < 4; k++) {
                String head = heads[k];
                int n = head.length();
                int behind = k == 3 ? NONE : 0;
                fault(head, n);
                fault(head + "0", behind == NONE ? NONE : n + 1);
                fault(head + "10", behind == NONE ? NONE : n + 2);
                fault(head + "100", n + 2);
            }
        });
        of("Terms 2", words, "none, one, two, three of t, at both its places", () -> {
            fault("t", 1);
            fault("tx1", 1);
            fault("t1x1", NONE);
            fault("t12x1", NONE);
            fault("t123x1", 3);
            fault("t1x", 3);
            fault("t1x12", NONE);
            fault("t1x123", 5);
            fault("t12x123", 6);
        });
        of("Terms 2", words, "figures are 0 to 9", () -> {
            fault("a0", NONE);
            fault("a9", NONE);
            fault("a/", 1);
            fault("a:", 1);
            fault("a1/", 2);
            fault("a1:", 2);
        });
        of("Terms 2", words, "a 0 ahead is a figure", () -> {
            fault("a00", NONE);
            fault("a005", 3);
            DrawnList x = Lists.with(Lists.alike(7), "a07");
            due("can", x.can(0), 1);
            due("draws", x.draws(0), 1);
        });
    }

    private void faults() {
        String words = "The FAULT is the place of the first byte with which it cannot go on (of an empty text 0).";
        of("Terms 2", words, "an empty text, a new one and a wiped one", () -> {
            DrawnList x = new DrawnList();
            due("new", x.fault(0), 0);
            Lists.plan(x, 0, "a1");
            due("none", x.fault(0), NONE);
            x.wipe(0);
            due("wiped", x.fault(0), 0);
        });
        of("Terms 2", words, "the first byte of all", () -> {
            for (String text : new String[] {"b", "1", "A1", " a1", ",", "L1,1,1,1", "E1", "Z1", "T1x1", "x", "y1", "f1", "d1", "k1", "m1", "s1", "u1", "{1"}) {
                fault(text, 0);
            }
            for (int b : new int[] {0, 96, 127, 128, 225, 229, 255}) {
                DrawnList x = new DrawnList();
                x.type(0, b);
                due("fault of byte " + b, x.fault(0), 0);
                x.type(0, '1');
                due("fault of byte " + b + ", and more", x.fault(0), 0);
            }
        });
        of("Terms 2", words, "a byte too many, just behind the end", () -> {
            fault("a1 ", 2);
            fault("a12,", 3);
            fault("e1e", 2);
            fault("z1x1", 2);
            fault("l1,2,3,4,", 8);
            fault("l1,2,3,4x", 8);
            fault("l11,22,33,44", NONE);
            fault("l11,22,33,44,5", 12);
            fault("t1x2x3", 4);
            fault("t1x2,3", 4);
        });
        of("Terms 2", words, "the text ends too early", () -> {
            fault("l1", 2);
            fault("l1,2,3", 6);
            fault("l11,22,33", 9);
            fault("l1,2,3,", 7);
            fault("t1", 2);
            fault("t12", 3);
        });
        of("Terms 2", words, "another byte between numbers", () -> {
            fault("l1x2", 2);
            fault("l1,2.3", 4);
            fault("l1,,2", 3);
            fault("l12-3", 3);
            fault("l 1,1,1,1", 1);
            fault("l1, 1,1,1", 3);
            fault("t1,1", 2);
            fault("t1X1", 2);
            fault("t1xx1", 3);
            fault("t1 x1", 2);
        });
        of("Terms 2", words, "a byte of the upper half is none of a figure", () -> {
            DrawnList x = Lists.planned("a1");
            x.type(0, '1' + 128);
            due("fault", x.fault(0), 2);
        });
        of("Terms 2", words, "the first one counts, of two", () -> {
            fault("a1x,", 2);
            fault("l1x,2,,", 2);
            fault("qq", 0);
        });
        of("Terms 2", words, "the twentieth byte", () -> {
            fault("a1111111111111111111", 3);
            fault("l1,2,3,4            ", 8);
        });
    }

    private void can(DrawnList x, String text, int want) {
        due("can " + text + " be", Lists.with(x, text).can(0), want);
    }

    private void canBeOfAllAndLayers() {
        of("Terms 2", "A PLAN CAN BE, if it has no FAULT", "with a fault behind what could be", () -> {
            DrawnList x = Lists.full();
            can(x, "a3", 1);
            can(x, "a3 ", 0);
            can(x, "a", 0);
            can(x, "", 0);
            can(x, "e1x", 0);
            can(x, "z1,", 0);
            can(x, "l1,1,1,1,", 0);
            can(x, "l1,1,1", 0);
            can(x, "t1x1x", 0);
            can(x, "t1x", 0);
        });
        of("Terms 2", "a: n is 1 to all", "0, 1, all, one more", () -> {
            DrawnList x = Lists.alike(3);
            can(x, "a0", 0);
            can(x, "a00", 0);
            can(x, "a1", 1);
            can(x, "a3", 1);
            can(x, "a4", 0);
            can(x, "a99", 0);
            can(new DrawnList(), "a0", 0);
            can(new DrawnList(), "a1", 0);
            can(Lists.full(), "a30", 1);
            can(Lists.full(), "a31", 0);
        });
        String layers = "l: each at most its LAYER, and one at least above 0";
        of("Terms 2", layers, "each layer as many as it has, and one more", () -> {
            DrawnList x = Lists.layered(2, 3, 1, 4);
            can(x, "l2,3,1,4", 1);
            can(x, "l3,3,1,4", 0);
            can(x, "l2,4,1,4", 0);
            can(x, "l2,3,2,4", 0);
            can(x, "l2,3,1,5", 0);
            can(x, "l3,0,0,0", 0);
        });
        of("Terms 2", layers, "all 0, and one above 0 at each place", () -> {
            DrawnList x = Lists.layered(2, 3, 1, 4);
            can(x, "l0,0,0,0", 0);
            can(x, "l00,00,00,00", 0);
            can(x, "l1,0,0,0", 1);
            can(x, "l0,1,0,0", 1);
            can(x, "l0,0,1,0", 1);
            can(x, "l0,0,0,1", 1);
        });
        of("Terms 2", layers, "a layer without names", () -> {
            DrawnList x = Lists.layered(2, 0, 1);
            can(x, "l1,0,1,0", 1);
            can(x, "l1,1,1,0", 0);
            can(x, "l1,0,1,1", 0);
            can(new DrawnList(), "l0,0,0,0", 0);
        });
        of("Terms 2", layers, "all thirty of one layer", () -> {
            can(Lists.layered(0, 0, 0, 30), "l0,0,0,30", 1);
            can(Lists.layered(0, 0, 0, 30), "l0,0,0,31", 0);
        });
    }

    private void canBeOfOthers() {
        of("Terms 2", "e: n is 1 to 30", "0, 1, 30, 31", () -> {
            for (DrawnList x : new DrawnList[] {new DrawnList(), Lists.alike(2), Lists.full()}) {
                can(x, "e0", 0);
                can(x, "e1", 1);
                can(x, "e30", 1);
                can(x, "e31", 0);
                can(x, "e99", 0);
            }
        });
        String sizes = "z: n is 1 or more and I is 1 or more";
        of("Terms 2", sizes, "n 0 and 1", () -> {
            can(Lists.sized(5), "z0", 0);
            can(Lists.sized(5), "z1", 1);
        });
        of("Terms 2", sizes, "n as long as the line, and one more", () -> {
            can(Lists.sized(4, 5), "z9", 1);
            can(Lists.sized(4, 5), "z10", 0);
            can(Lists.sized(20, 20, 20, 20, 19), "z99", 1);
            can(Lists.sized(20, 20, 20, 20, 18), "z99", 0);
            can(Lists.sized(20, 20, 20, 20, 18), "z98", 1);
            can(new DrawnList(), "z1", 0);
            can(new DrawnList(), "z0", 0);
        });
        String steps = "t: the first n is 1 to how many CLUSTERS there are, the second 1 or more.";
        of("Terms 2", steps, "the first: 0, 1, all, one more", () -> {
            DrawnList x = Lists.clustered(2, 0, 1, 3);
            can(x, "t0x1", 0);
            can(x, "t1x1", 1);
            can(x, "t3x1", 1);
            can(x, "t4x1", 0);
            can(x, "t99x1", 0);
            can(new DrawnList(), "t0x1", 0);
            can(new DrawnList(), "t1x1", 0);
            can(Lists.full(), "t8x1", 1);
            can(Lists.full(), "t9x1", 0);
        });
        of("Terms 2", steps, "the second: 0, 1, 99", () -> {
            DrawnList x = Lists.clustered(2, 0, 1, 3);
            can(x, "t1x0", 0);
            can(x, "t1x00", 0);
            can(x, "t1x1", 1);
            can(x, "t1x99", 1);
        });
        String now = "(All by NAMES as they are.)";
        of("Terms 2", now, "one name more, and it can be", () -> {
            for (String text : new String[] {"a1", "l1,0,0,0", "z1", "z20", "t1x1"}) {
                DrawnList x = Lists.planned(text);
                due(text + " cannot be", x.can(0), 0);
                x.name(0, 0, 20, 0);
                due(text + " can be", x.can(0), 1);
            }
        });
        of("Terms 2", now, "one name more, and draws and shares are others", () -> {
            DrawnList x = Lists.with(Lists.alike(2), "a2");
            due("draws", x.draws(0), 1);
            share(x, 0, 1, 1);
            x.name(0, 0, 1, 0);
            due("draws", x.draws(0), 3);
            share(x, 0, 2, 3);
            makes(x, 1, 0b110);
        });
        of("Terms 2", now, "a refused name changes none of it", () -> {
            DrawnList x = Lists.with(Lists.alike(2), "a3");
            x.name(4, 0, 1, 0);
            due("it cannot be", x.can(0), 0);
        });
        of("Terms 2", now, "a name in a cluster of its own", () -> {
            DrawnList x = Lists.with(Lists.clustered(2, 2), "t2x2");
            due("draws", x.draws(0), 1);
            x.name(0, 7, 1, 0);
            due("draws", x.draws(0), 3);
            share(x, 4, 2, 3);
        });
    }

    private static long drawsOf(DrawnList x, String text) {
        return Lists.with(x, text).draws(0);
    }

    private void draws() {
        String words = "DRAWS of a PLAN are how many ways there are: a, l: sets; e: n; z: I; t: the ways to take CLUSTERS, of each the ways to take NAMES, together.";
        of("Terms 2", words, "a: one, half, all of thirty", () -> {
            due("a1", drawsOf(Lists.full(), "a1"), 30);
            due("a15", drawsOf(Lists.full(), "a15"), 155117520L);
            due("a29", drawsOf(Lists.full(), "a29"), 30);
            due("a30", drawsOf(Lists.full(), "a30"), 1);
        });
        of("Terms 2", words, "l: layers of which none or all are wanted", () -> {
            DrawnList x = Lists.layered(8, 8, 7, 7);
            due("all", drawsOf(x, "l8,8,7,7"), 1);
            due("one of one", drawsOf(x, "l0,0,0,1"), 7);
            due("half of each", drawsOf(x, "l4,4,3,3"), 70L * 70 * 35 * 35);
            due("thirty of one layer", drawsOf(Lists.layered(0, 30), "l0,15,0,0"), 155117520L);
        });
        of("Terms 2", words, "t: the most ways", () -> {
            due("all clusters", drawsOf(Lists.clustered(4, 4, 4, 4, 4, 4, 3, 3), "t8x2"), 46656L * 9);
            due("half of thirty", drawsOf(Lists.alike(30), "t1x15"), 155117520L);
            due("half of two", drawsOf(Lists.clustered(15, 15), "t2x7"), 6435L * 6435);
        });
        String each = "(Ways that come to one set count each.)";
        of("Terms 2", each, "each n-th of fewer names", () -> {
            DrawnList x = Lists.with(Lists.alike(2), "e30");
            due("draws", x.draws(0), 30);
            share(x, 1, 1, 30);
        });
        of("Terms 2", each, "by sizes", () -> {
            DrawnList x = Lists.with(Lists.sized(2, 3), "z1");
            due("draws", x.draws(0), 5);
            share(x, 0, 2, 5);
            DrawnList y = Lists.with(Lists.sized(20), "z1");
            due("draws of one set", y.draws(0), 20);
            share(y, 0, 1, 1);
        });
    }

    private void shares() {
        String words = "SHARE of a NAME: of all ways (as likely as told) those with it in the DRAW; of two NAMES: those with both.";
        of("Terms 2", words, "never and always", () -> {
            DrawnList x = Lists.with(Lists.layered(2, 2), "l0,2,0,0");
            share(x, 0, 0, 1);
            share(x, 3, 1, 1);
            both(x, 0, 1, 0, 1);
            both(x, 0, 3, 0, 1);
            both(x, 2, 3, 1, 1);
        });
        of("Terms 2", words, "one of all: never two", () -> both(Lists.with(Lists.alike(2), "a1"), 0, 1, 0, 1));
        of("Terms 2", words, "all but one", () -> both(Lists.with(Lists.alike(30), "a29"), 0, 29, 14, 15));
        of("Terms 1", "FRACTIONS are told in lowest terms, above and below (0 by 1).", "shares", () -> {
            DrawnList x = Lists.with(Lists.full(), "a12");
            share(x, 0, 2, 5);
            both(x, 0, 1, 22, 145);
            Lists.plan(x, 0, "a30");
            share(x, 0, 1, 1);
            both(x, 0, 29, 1, 1);
            Lists.plan(x, 0, "e30");
            both(x, 0, 29, 0, 1);
            Lists.plan(x, 0, "t4x2");
            share(x, 0, 1, 4);
        });
    }

    private void lots(DrawnList x, String text, int[] seeds, int[] draws) {
        Lists.plan(x, 0, text);
        for (int k = 0; k < seeds.length; k++) {
            due("lots of " + text + " by " + seeds[k], x.lots(0, seeds[k]), draws[k]);
        }
    }

    /** Draws by a program of their own, written from the document's words. */
    private void lots() {
        int[] seeds = {0, 1, 2, 3, -1, -2, -7, HIGH, LOW, 12345678, -987654321};
        String lot = "SEED becomes 1103515245 SEED and 12345, as ints that wrap; its upper 16 bits as a number from 0 on, modulo k.";
        of("Terms 2", lot, "seeds 0, least, greatest, below 0", () -> {
            lots(Lists.alike(10), "e7", seeds, new int[] {129, 8, 64, 8, 32, 516, 516, 16, 258, 64, 16});
            lots(Lists.alike(10), "a3", seeds, new int[] {49, 292, 42, 176, 88, 772, 98, 352, 336, 518, 400});
        });
        of("Terms 2", "e: the first one is a LOT of n.", "n 1, and more than there are names", () -> {
            lots(Lists.alike(3), "e1", seeds, new int[] {7, 7, 7, 7, 7, 7, 7, 7, 7, 7, 7});
            DrawnList x = Lists.with(Lists.alike(1), "e30");
            due("a first one that there is", x.lots(0, 0), 1);
            due("a first one beyond the names", x.lots(0, 1), 0);
        });
        of("Terms 2", "z: u is a LOT of I.", "of two layers of sizes, and I 1", () -> {
            lots(Lists.clustered(4, 4), "z3", seeds, new int[] {81, 82, 164, 168, 82, 208, 164, 164, 168, 208, 164});
            lots(Lists.sized(1, 1, 1), "z3", seeds, new int[] {7, 7, 7, 7, 7, 7, 7, 7, 7, 7, 7});
        });
        String zero = "it is taken if a LOT of r is below m (a LOT for each, also where m is 0)";
        of("Terms 2", zero, "none is wanted of the first layer and the third", () ->
                lots(Lists.layered(4, 5, 3, 4), "l0,2,0,1", seeds, new int[] {33088, 4480, 4176, 32816, 8512, 8576, 4144, 33040, 32848, 4368, 4368}));
        of("Terms 2", zero, "those that come behind the last wanted one", () ->
                lots(Lists.layered(4, 5, 3, 4), "l2,1,1,1", seeds, new int[] {35077, 4874, 6169, 33306, 10501, 10374, 6179, 35077, 33347, 4630, 6169}));
        of("Terms 2", zero, "all are wanted", () -> {
            lots(Lists.full(), "a30", new int[] {0, LOW, HIGH}, new int[] {ALL_THIRTY, ALL_THIRTY, ALL_THIRTY});
            lots(Lists.full(), "t8x99", new int[] {0, LOW, HIGH}, new int[] {ALL_THIRTY, ALL_THIRTY, ALL_THIRTY});
        });
        String steps = "t: CLUSTERS first, then of each of them, by numbers.";
        of("Terms 2", steps, "of each some", () ->
                lots(Lists.clustered(3, 4, 2, 5), "t2x2", seeds, new int[] {389, 8752, 8709, 4688, 387, 424, 30, 387, 46, 456, 12293}));
        of("Terms 2", steps, "of three clusters one name, of one cluster three", () -> {
            lots(Lists.clustered(3, 4, 2, 5), "t3x1", seeds, new int[] {769, 1057, 4353, 2240, 2306, 2184, 522, 289, 164, 1344, 1089});
            lots(Lists.clustered(3, 4, 2, 5), "t1x3", seeds, new int[] {7, 112, 7, 88, 384, 104, 7, 384, 7, 104, 10752});
        });
        of("Terms 2", steps, "of all clusters, of two all names", () -> {
            lots(Lists.clustered(3, 4, 2, 5), "t4x2", seeds, new int[] {6573, 9701, 12701, 3542, 9651, 6630, 1950, 2995, 5038, 3557, 5093});
            lots(Lists.clustered(3, 4, 2, 5), "t2x4", seeds, new int[] {391, 11896, 11783, 14968, 391, 504, 127, 391, 127, 504, 15367});
            lots(Lists.clustered(3, 4, 2, 5), "t2x99", seeds, new int[] {391, 15992, 15879, 15992, 391, 504, 127, 391, 127, 504, 15879});
        });
        of("Terms 2", steps, "a cluster without names, clusters of which all are taken", () ->
                lots(Lists.clustered(2, 0, 2, 3, 3), "t2x2", seeds, new int[] {83, 780, 643, 652, 83, 108, 15, 99, 15, 108, 643}));
    }

    private void typeAndWipe() {
        String type = "A byte (0 to 255) comes behind a PLAN: how many. BAD; FULL.";
        of("Promise 8", type, "0 and 255 are taken", () -> {
            DrawnList x = new DrawnList();
            due("0", x.type(0, 0), 1);
            due("255", x.type(0, 255), 2);
            due("bytes", x.count(4), 2);
        });
        for (int beyond : new int[] {-1, 256, LOW, HIGH, 256 + 'a', 'a' - 256}) {
            of("Promise 8", type, beyond + " is BAD", () -> refused(BAD, "type", x -> x.type(0, beyond)));
        }
        of("Promise 8", type, "BAD ahead of FULL", () -> {
            refused("byte", () -> typed(20), x -> x.type(0, 256), BAD);
            refused("byte", () -> typed(20), x -> x.type(0, -1), BAD);
            refused("plan", () -> typed(20), x -> x.type(4, 'a'), BAD);
        });
        of("Promise 9", "A PLAN is empty: how many bytes it had. BAD.", "none, one, twenty", () -> {
            due("none", new DrawnList().wipe(0), 0);
            due("one", typed(1).wipe(0), 1);
            due("twenty", typed(20).wipe(0), 20);
        });
        of("Promise 9", "A PLAN is empty: how many bytes it had. BAD.", "nothing of the old text comes back", () -> {
            DrawnList x = Lists.with(Lists.layered(1, 1, 1, 1), "l1,1,1,1");
            x.wipe(0);
            due("bytes", x.count(4), 0);
            due("can", x.can(0), 0);
            x.type(0, 'l');
            x.type(0, '1');
            due("fault", x.fault(0), 2);
            due("wiped again", x.wipe(0), 2);
        });
    }

    private void faultAndCan() {
        of("Promise 10", "The FAULT of a PLAN; NONE. BAD.", "byte by byte", () -> {
            DrawnList x = new DrawnList();
            int[] want = {0, 1, 2, 3, 4, 5, 6, 7, NONE, NONE, 9};
            String text = "l1,2,3,444";
            due("empty", x.fault(3), want[0]);
            for (int k = 1; k <= text.length(); k++) {
                x.type(3, text.charAt(k - 1));
                due("of " + k + " bytes", x.fault(3), want[k]);
            }
        });
        of("Promise 10", "The FAULT of a PLAN; NONE. BAD.", "it asks for no names", () -> {
            fault("a0", NONE);
            fault("e99", NONE);
            fault("z0", NONE);
            fault("l0,0,0,0", NONE);
            fault("t0x0", NONE);
        });
        of("Promise 11", "Whether a PLAN CAN BE: 1, 0. BAD.", "an empty one cannot", () -> due("can", Lists.full().can(0), 0));
    }

    private void drawsAndShare() {
        String draws = "DRAWS of a PLAN. BAD; NOT: it cannot be. (As the least long.)";
        of("Promise 12", draws, "NOT of each kind", () -> {
            for (String text : new String[] {"", "a", "a7", "a0", "l0,0,0,0", "l3,0,0,0", "e0", "e31", "z0", "z23", "t0x1", "t5x1", "t1x0", "q1"}) {
                refused(text, () -> Lists.with(Lists.rich(), text), x -> x.draws(0), LONG_NOT);
            }
        });
        String share = "SHARE of a NAME: above (what = 0), below (1). BAD; NOT: the PLAN cannot be. (As the least long.)";
        of("Promise 13", share, "a name that there is", () -> {
            refused(LONG_BAD, "share", x -> x.share(0, -1, 0), x -> x.share(0, 6, 0), x -> x.share(0, LOW, 0), x -> x.share(0, HIGH, 0));
            due("the last", Lists.rich().share(0, 5, 1), 2);
        });
        of("Promise 13", share, "what is 0 or 1", () ->
                refused(LONG_BAD, "share", x -> x.share(0, 0, -1), x -> x.share(0, 0, 2), x -> x.share(0, 0, LOW), x -> x.share(0, 0, HIGH)));
        of("Promise 13", share, "NOT", () -> refused("share", Lists::without, x -> x.share(0, 0, 0), LONG_NOT));
        of("Promise 13", share, "BAD ahead of NOT, by each argument", () -> {
            refused("name", Lists::without, x -> x.share(0, 6, 0), LONG_BAD);
            refused("what", Lists::without, x -> x.share(0, 0, 2), LONG_BAD);
            refused("no names at all", DrawnList::new, x -> x.share(0, 0, 0), LONG_BAD);
        });
    }

    private void both() {
        String words = "SHARE of two unlike NAMES likewise. BAD; NOT.";
        of("Promise 14", words, "like names are BAD", () -> refused(LONG_BAD, "both", x -> x.both(0, 0, 0, 0), x -> x.both(0, 5, 5, 1)));
        of("Promise 14", words, "names that there are", () -> {
            refused(LONG_BAD, "both", x -> x.both(0, -1, 0, 0), x -> x.both(0, 6, 0, 0), x -> x.both(0, 0, -1, 0), x -> x.both(0, 0, 6, 0),
                    x -> x.both(0, LOW, HIGH, 0));
            due("first and last", Lists.rich().both(0, 0, 5, 0), 1);
        });
        of("Promise 14", words, "what is 0 or 1", () -> refused(LONG_BAD, "both", x -> x.both(0, 0, 1, -1), x -> x.both(0, 0, 1, 2)));
        of("Promise 14", words, "NOT", () -> refused("both", Lists::without, x -> x.both(0, 0, 1, 0), LONG_NOT));
        of("Promise 14", words, "BAD ahead of NOT, by each argument", () -> {
            refused("like names", Lists::without, x -> x.both(0, 1, 1, 0), LONG_BAD);
            refused("first name", Lists::without, x -> x.both(0, 6, 1, 0), LONG_BAD);
            refused("second name", Lists::without, x -> x.both(0, 1, 6, 0), LONG_BAD);
            refused("what", Lists::without, x -> x.both(0, 0, 1, 2), LONG_BAD);
        });
    }

    private void width() {
        String words = "How many NAMES there are in a DRAW at the least (what = 0), at the most (1), over all ways. BAD; NOT.";
        of("Promise 15", words, "as many in each draw", () -> {
            width(Lists.with(Lists.full(), "a1"), 1, 1);
            width(Lists.with(Lists.full(), "a30"), 30, 30);
            width(Lists.with(Lists.layered(2, 3, 1, 4), "l2,3,1,4"), 10, 10);
            width(Lists.with(Lists.layered(2, 3, 1, 4), "l0,0,1,0"), 1, 1);
        });
        of("Promise 15", words, "each n-th: one apart, or none", () -> {
            width(Lists.with(Lists.alike(8), "e3"), 2, 3);
            width(Lists.with(Lists.alike(9), "e3"), 3, 3);
            width(Lists.with(new DrawnList(), "e3"), 0, 0);
            width(Lists.with(Lists.alike(29), "e30"), 0, 1);
            width(Lists.with(Lists.alike(30), "e30"), 1, 1);
        });
        of("Promise 15", words, "in two steps: the smallest clusters and the greatest", () -> {
            width(Lists.with(Lists.clustered(1, 2, 3, 4), "t2x3"), 3, 6);
            width(Lists.with(Lists.clustered(1, 2, 3, 4), "t2x4"), 3, 7);
            width(Lists.with(Lists.clustered(1, 2, 3, 4), "t3x1"), 3, 3);
            width(Lists.with(Lists.clustered(1, 2, 3, 4), "t4x99"), 10, 10);
            width(Lists.with(Lists.clustered(30), "t1x30"), 30, 30);
            width(Lists.with(Lists.clustered(30), "t1x29"), 29, 29);
        });
        of("Promise 15", words, "what is 0 or 1", () -> refused(BAD, "width", x -> x.width(0, -1), x -> x.width(0, 2), x -> x.width(0, LOW), x -> x.width(0, HIGH)));
        of("Promise 15", words, "NOT, and BAD ahead of it", () -> {
            refused("NOT", Lists::without, x -> x.width(0, 0), NOT);
            refused("NOT", Lists::without, x -> x.width(0, 1), NOT);
            refused("BAD", Lists::without, x -> x.width(0, 2), BAD);
        });
    }

    private void lotsRefused() {
        of("Promise 16", "A DRAW BY LOTS. BAD; NOT. (As NAMES are 30 at most, it is not below 0.)", "NOT", () ->
                refused("lots", Lists::without, x -> x.lots(0, 1), NOT));
        of("Promise 16", "A DRAW BY LOTS. BAD; NOT. (As NAMES are 30 at most, it is not below 0.)", "the greatest draw", () ->
                due("lots", Lists.with(Lists.full(), "e1").lots(0, -1), ALL_THIRTY));
        of("Promise 16", "A DRAW BY LOTS. BAD; NOT. (As NAMES are 30 at most, it is not below 0.)", "a seed is not kept from call to call", () -> {
            DrawnList x = Lists.with(Lists.full(), "a11");
            int first = x.lots(0, 5);
            x.lots(0, 6);
            due("again", x.lots(0, 5), first);
        });
    }

    private void makes() {
        String words = "Whether a PLAN can make a DRAW: 1, 0. BAD: also bits of NAMES that there are not; NOT.";
        of("Promise 17", words, "all names, and a bit more", () -> {
            makes(Lists.with(Lists.alike(6), "a6"), 1, 0b111111);
            refused(BAD, "makes", x -> x.makes(0, 0b1000000), x -> x.makes(0, 0b1000011), x -> x.makes(0, 1 << 29), x -> x.makes(0, 1 << 30),
                    x -> x.makes(0, LOW), x -> x.makes(0, HIGH), x -> x.makes(0, -1));
        });
        of("Promise 17", words, "the thirtieth bit, and the next ones", () -> {
            makes(Lists.with(Lists.full(), "a30"), 1, ALL_THIRTY);
            makes(Lists.with(Lists.full(), "a1"), 1, 1 << 29);
            refused("bit 30", () -> Lists.with(Lists.full(), "a1"), x -> x.makes(0, 1 << 30), BAD);
            refused("bit 31", () -> Lists.with(Lists.full(), "a1"), x -> x.makes(0, LOW), BAD);
        });
        of("Promise 17", words, "no names at all", () -> {
            makes(Lists.planned("e1"), 1, 0);
            refused("bit 0", () -> Lists.planned("e1"), x -> x.makes(0, 1), BAD);
        });
        of("Promise 17", words, "a draw of none", () -> {
            makes(Lists.with(Lists.alike(2), "a1"), 0, 0);
            makes(Lists.with(Lists.alike(2), "e2"), 0, 0);
            makes(Lists.with(Lists.alike(2), "e3"), 1, 0);
            makes(Lists.with(Lists.alike(2), "z1"), 0, 0);
            makes(Lists.with(Lists.alike(2), "t1x1"), 0, 0);
            makes(Lists.with(Lists.layered(2), "l1,0,0,0"), 0, 0);
        });
        of("Promise 17", words, "NOT, and BAD ahead of it", () -> {
            refused("NOT", Lists::without, x -> x.makes(0, 1), NOT);
            refused("NOT, a draw of none", Lists::without, x -> x.makes(0, 0), NOT);
            refused("BAD", Lists::without, x -> x.makes(0, 64), BAD);
        });
    }
}
