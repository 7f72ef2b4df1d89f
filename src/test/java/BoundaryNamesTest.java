/** Boundary cases of names and answers: the document's part 1 and promises 1 to 7, sentence by sentence. */
public final class BoundaryNamesTest extends Cases {
    private static final String ORDER = "Refusals, the first that fits, in the order told at each act";

    public static void main(String[] args) {
        new BoundaryNamesTest().run();
    }

    void all() {
        atMostSoManyCalls();
        boundsOfNames();
        boundsOfAnswers();
        valuesAsOfADay();
        newObject();
        name();
        read();
        readStops();
        about();
        answer();
        asOf();
        many();
    }

    private void atMostSoManyCalls() {
        of("What it is", "An object is used for at most 512 calls after it has been made", "the 512th answers yet", () -> {
            DrawnList x = new DrawnList();
            for (int k = 1; k < 512; k++) {
                due("call " + k, x.asOf(k % 400), k == 1 ? 399 : (k - 1) % 400);
            }
            due("call 512", x.count(3), 511 - 400);
        });
        of("What it is", "An object is used for at most 512 calls after it has been made", "all of it full within them", () -> {
            DrawnList x = Lists.full();
            for (int k = 1; k <= 120; k++) {
                due("answer " + k, x.answer(k % 30, k, k), k);
            }
            for (int k = 1; k <= 80; k++) {
                due("byte " + k, x.type((k - 1) / 20, 'a'), (k - 1) % 20 + 1);
            }
            for (int s = 0; s < 4; s++) {
                due("sheet " + s, x.sheet(s, 2, 90), 90);
            }
            due("names", x.count(0), 30);
            due("answers", x.count(2), 120);
        });
    }

    private void boundsOfNames() {
        String words = "NAMES 0 .. 29 (30 at most)";
        of("Terms 1", words, "the first is 0", () -> due("name", new DrawnList().name(0, 0, 1, 0), 0));
        of("Terms 1", words, "the thirtieth is 29", () -> {
            DrawnList x = Lists.alike(29);
            due("name", x.name(3, 7, 20, 2), 29);
            due("it is there", x.about(29, 2), 20);
        });
        of("Terms 1", words, "one more is FULL", () -> refused("name", () -> Lists.alike(30), x -> x.name(0, 0, 1, 0), FULL));
        bounds("a LAYER (0 to 3)", 0, 0, 3);
        bounds("a CLUSTER (0 to 7)", 1, 0, 7);
        bounds("a SIZE (1 to 20)", 2, 1, 20);
        bounds("a MARK (0 to 2)", 3, 0, 2);
    }

    /** One argument of name() at both ends and just beyond. */
    private void bounds(String words, int which, int least, int most) {
        for (int end : new int[] {least, most}) {
            of("Terms 1", words, end + " is taken", () -> {
                DrawnList x = new DrawnList();
                due("name", nameWith(x, which, end), 0);
                due("about", x.about(0, which), end);
            });
        }
        for (int beyond : new int[] {least - 1, most + 1, LOW, HIGH}) {
            of("Terms 1", words, beyond + " is BAD", () -> refused("name", Lists::rich, x -> nameWith(x, which, beyond), BAD));
        }
    }

    private static int nameWith(DrawnList x, int which, int number) {
        return x.name(which == 0 ? number : 0, which == 1 ? number : 0, which == 2 ? number : 1, which == 3 ? number : 0);
    }

    private static DrawnList answered(int times) {
        DrawnList x = Lists.alike(2);
        for (int k = 0; k < times; k++) {
            x.answer(0, k, k);
        }
        return x;
    }

    private void boundsOfAnswers() {
        of("Terms 1", "ANSWERS, 120 at most", "the 120th is taken", () -> {
            DrawnList x = answered(119);
            due("answer", x.answer(1, 7, 0), 120);
            due("it is there", x.about(1, 4), 7);
        });
        of("Terms 1", "ANSWERS, 120 at most", "one more is FULL", () -> refused("answer", () -> answered(120), x -> x.answer(1, 7, 399), FULL));
        of("Terms 1", "ANSWERS, 120 at most", "one that will not tell is one too", () -> {
            DrawnList x = answered(119);
            due("answer", x.answer(1, NONE, 0), 120);
            due("one more", x.answer(1, NONE, 0), FULL);
        });
        String value = "a NAME told a VALUE (0 to 10000), or that it will not tell (NONE)";
        for (int taken : new int[] {NONE, 0, 10000}) {
            of("Terms 1", value, taken + " is taken", () -> {
                DrawnList x = answered(1);
                due("answer", x.answer(0, taken, 5), 2);
                due("value", x.about(0, 4), taken);
            });
        }
        for (int beyond : new int[] {-2, 10001, LOW, HIGH}) {
            of("Terms 1", value, beyond + " is BAD", () -> refused(BAD, "answer", x -> x.answer(0, beyond, 9)));
        }
        for (int taken : new int[] {0, 399}) {
            of("Terms 1", "on a DAY (0 to 399)", taken + " is taken", () -> {
                DrawnList x = Lists.alike(1);
                due("answer", x.answer(0, 3, taken), 1);
                due("value", x.about(0, 4), 3);
            });
        }
        for (int beyond : new int[] {-1, 400, LOW, HIGH}) {
            of("Terms 1", "on a DAY (0 to 399)", beyond + " is BAD", () -> refused(BAD, "answer", x -> x.answer(0, 3, beyond)));
        }
    }

    private void asOf(DrawnList x, int day, int value) {
        x.asOf(day);
        due("value as of " + day, x.about(0, 4), value);
    }

    private void valuesAsOfADay() {
        of("Terms 1", "AS OF a DAY (399 at first)", "at first", () -> {
            DrawnList x = Lists.alike(1);
            due("count", x.count(3), 399);
            x.answer(0, 5, 399);
            due("the last day counts", x.about(0, 4), 5);
            due("what it was", x.asOf(0), 399);
        });
        String greatest = "that of its ANSWER with the greatest DAY up to it";
        of("Terms 1", greatest, "the day itself and the day ahead of it", () -> {
            DrawnList x = Lists.alike(1);
            x.answer(0, 5, 100);
            x.answer(0, 6, 101);
            asOf(x, 99, NONE);
            asOf(x, 100, 5);
            asOf(x, 101, 6);
            asOf(x, 102, 6);
        });
        of("Terms 1", greatest, "days 0 and 399", () -> {
            DrawnList x = Lists.alike(1);
            x.answer(0, 6, 399);
            x.answer(0, 5, 0);
            asOf(x, 0, 5);
            asOf(x, 398, 5);
            asOf(x, 399, 6);
        });
        of("Terms 1", greatest, "an earlier day that is told later", () -> {
            DrawnList x = Lists.alike(1);
            x.answer(0, 6, 50);
            x.answer(0, 5, 49);
            asOf(x, 399, 6);
            asOf(x, 49, 5);
        });
        of("Terms 1", "of like ones the later", "two, three of one day", () -> {
            DrawnList x = Lists.alike(1);
            x.answer(0, 9, 50);
            x.answer(0, 3, 50);
            asOf(x, 50, 3);
            x.answer(0, 4, 50);
            asOf(x, 50, 4);
        });
        of("Terms 1", "of like ones the later", "it will not tell, and tells after all", () -> {
            DrawnList x = Lists.alike(1);
            x.answer(0, 9, 50);
            x.answer(0, NONE, 50);
            asOf(x, 399, NONE);
            x.answer(0, 8, 50);
            asOf(x, 399, 8);
        });
        String none = "NONE, if there is none, or it will not tell";
        of("Terms 1", none, "none at all, none yet", () -> {
            DrawnList x = Lists.alike(2);
            x.answer(1, 5, 0);
            due("none at all", x.about(0, 4), NONE);
            x.answer(0, 5, 7);
            asOf(x, 6, NONE);
        });
        of("Terms 1", none, "it does not fall back to what it told", () -> {
            DrawnList x = Lists.alike(1);
            x.answer(0, 5, 7);
            x.answer(0, NONE, 8);
            asOf(x, 399, NONE);
            asOf(x, 8, NONE);
            asOf(x, 7, 5);
        });
        of("Terms 1", none, "the value 0 is one", () -> {
            DrawnList x = Lists.alike(1);
            x.answer(0, 0, 7);
            due("value", x.about(0, 4), 0);
            due("with a value", x.count(1), 1);
        });
    }

    private void newObject() {
        of("Promise 1", "An empty list", "there are no names", () -> {
            DrawnList x = new DrawnList();
            due("names", x.count(0), 0);
            due("clusters", x.count(9), 0);
            due("about", x.about(0, 0), BAD);
            due("answer", x.answer(0, 0, 0), BAD);
            due("all", x.many(3, 0), 0);
            due("silent of none", x.silent(0), 0);
            due("silent of the first", x.silent(1), BAD);
        });
        of("Promise 1", "An empty list", "each plan is an empty text", () -> {
            DrawnList x = new DrawnList();
            for (int p = 0; p < 4; p++) {
                due("bytes", x.count(4 + p), 0);
                due("fault", x.fault(p), 0);
                due("can", x.can(p), 0);
                due("lots", x.lots(p, 1), -3);
                due("wipe", x.wipe(p), 0);
            }
        });
        of("Promise 1", "An empty list", "each n-th of no names", () -> {
            DrawnList x = Lists.planned("e3");
            due("draws", x.draws(0), 3);
            due("makes none", x.makes(0, 0), 1);
            due("sum above", x.sum(0, 0, 0), 0);
            due("sum below", x.sum(0, 0, 1), 1);
            due("least", x.edge(0, 0), 0);
            due("greatest", x.edge(0, 1), 0);
            due("miss", x.led(0, 0, 30, 0), 0);
            due("led sum", x.led(0, 0, 30, 1), 0);
            due("asked again", x.again(0, 0, 800, 0), 0);
        });
        of("Promise 1", "all SHEETS are LOST", "each call on each says so", () -> {
            for (int k = 0; k < 4; k++) {
                int s = k;
                refused("lose", DrawnList::new, x -> x.lose(s), NULL);
                refused("put", DrawnList::new, x -> x.put(s, 0, 0, 0), NULL);
                refused("read", DrawnList::new, x -> x.read(s), NULL);
                refused("write", DrawnList::new, x -> x.write(s, 0), NULL);
                refused("copy", DrawnList::new, x -> x.copy(s, 0, s, 0, 0), NULL);
                getRefused("get", DrawnList::new, x -> x.get(s, 0, 0), 1);
            }
        });
        of("Promise 1", "An empty list", "objects are apart", () -> {
            Lists.rich();
            DrawnList x = new DrawnList();
            due("names", x.count(0), 0);
            due("as of", x.count(3), 399);
            due("cost", x.cost(7, 1), 5);
            due("known", x.known(0, 0, 1), 0);
            due("finding", x.count(8), 0);
        });
    }

    private void name() {
        of("Promise 2", "A NAME more: its number.", "numbers without a gap, also behind a BAD one", () -> {
            DrawnList x = new DrawnList();
            due("first", x.name(0, 0, 1, 0), 0);
            due("BAD", x.name(0, 0, 21, 0), BAD);
            due("second", x.name(0, 0, 20, 0), 1);
        });
        of("Promise 2", "BAD; FULL.", "BAD ahead of FULL, by each argument", () -> {
            refused("layer", () -> Lists.alike(30), x -> x.name(4, 0, 1, 0), BAD);
            refused("cluster", () -> Lists.alike(30), x -> x.name(0, 8, 1, 0), BAD);
            refused("size", () -> Lists.alike(30), x -> x.name(0, 0, 0, 0), BAD);
            refused("mark", () -> Lists.alike(30), x -> x.name(0, 0, 1, 3), BAD);
        });
        of("Promise 2", "BAD; FULL.", "full stays full", () -> {
            DrawnList x = Lists.alike(30);
            due("FULL", x.name(0, 0, 1, 0), FULL);
            due("FULL again", x.name(3, 7, 20, 2), FULL);
            due("names", x.count(0), 30);
        });
    }

    /** A sheet 0 of a form with these items. */
    private static DrawnList sheet(DrawnList x, int form, int... items) {
        x.sheet(0, form, items.length);
        for (int i = 0; i < items.length; i++) {
            x.put(0, form, i, items[i]);
        }
        return x;
    }

    private void read() {
        String whole = "its items, four for each (as name()), as many as are whole";
        int[][] items = {{}, {1, 2, 3}, {1, 2, 3, 2}, {1, 2, 3, 2, 0, 0, 1}, {1, 2, 3, 2, 0, 0, 1, 0}};
        int[] names = {0, 0, 1, 1, 2};
        for (int k = 0; k < items.length; k++) {
            int[] those = items[k];
            int want = names[k];
            of("Promise 3", whole, "of " + those.length + " items", () -> {
                DrawnList x = sheet(new DrawnList(), 2, those);
                due("read", x.read(0), want);
                due("names", x.count(0), want);
                due("no finding", x.count(8), 0);
            });
        }
        of("Promise 3", whole, "of 90 items twenty-two, two are left over", () -> {
            DrawnList x = new DrawnList();
            x.sheet(0, 0, 90);
            for (int i = 2; i < 90; i += 4) {
                x.put(0, 0, i, 20);
            }
            due("read", x.read(0), 22);
            due("the last", x.about(21, 2), 20);
        });
        of("Promise 3", whole, "layer, cluster, size, mark, of each form", () -> {
            for (int form = 0; form < 3; form++) {
                DrawnList x = sheet(new DrawnList(), form, 3, 7, 20, 2);
                due("read", x.read(0), 1);
                due("layer", x.about(0, 0), 3);
                due("cluster", x.about(0, 1), 7);
                due("size", x.about(0, 2), 20);
                due("mark", x.about(0, 3), 2);
                due("the sheet stays", x.get(0, form, 2), 20);
                due("it can be read again", x.read(0), 1);
            }
        });
    }

    private void readStops() {
        String asLong = "as long as each may be: how many";
        int[][] wrong = {{4, 0, 1, 0}, {-1, 0, 1, 0}, {0, 8, 1, 0}, {0, -1, 1, 0}, {0, 0, 0, 0}, {0, 0, 21, 0}, {0, 0, 1, 3}, {0, 0, 1, -1}};
        for (int[] w : wrong) {
            of("Promise 3", asLong, "it stops at " + w[0] + " " + w[1] + " " + w[2] + " " + w[3], () -> {
                DrawnList x = sheet(new DrawnList(), 1, 0, 0, 1, 0, w[0], w[1], w[2], w[3], 0, 0, 1, 0);
                due("read", x.read(0), 1);
                due("names", x.count(0), 1);
            });
        }
        of("Promise 3", asLong, "the first may not be", () -> {
            DrawnList x = sheet(Lists.alike(2), 2, 0, 0, 0, 0, 0, 0, 1, 0);
            due("read", x.read(0), 0);
            due("names", x.count(0), 2);
        });
        of("Promise 3", asLong, "an item is not cut", () -> {
            DrawnList x = sheet(new DrawnList(), 2, 256, 0, 1, 0);
            due("read", x.read(0), 0);
        });
        for (int room = 0; room <= 3; room++) {
            int names = 30 - room;
            int want = Math.min(room, 2);
            of("Promise 3", asLong, "two on the sheet, room for " + room, () -> {
                DrawnList x = sheet(Lists.alike(names), 0, 1, 1, 2, 1, 2, 2, 3, 2);
                due("read", x.read(0), want);
                due("names", x.count(0), names + want);
            });
        }
        of("Promise 3", "BAD; NULL.", "no such sheet is BAD", () -> refused(BAD, "read", x -> x.read(-1), x -> x.read(4), x -> x.read(LOW), x -> x.read(HIGH)));
        of("Promise 3", "BAD; NULL.", "a lost one is NULL", () -> {
            refused("read", Lists::rich, x -> x.read(3), NULL);
            DrawnList x = sheet(new DrawnList(), 0, 0, 0, 1, 0);
            x.lose(0);
            due("lost again", x.read(0), NULL);
        });
        of("Promise 3", "BAD; NULL.", "an empty one is not lost", () -> {
            DrawnList x = sheet(new DrawnList(), 0);
            due("read", x.read(0), 0);
            due("no finding", x.count(8), 0);
        });
    }

    private void about() {
        String words = "Of a NAME: 0 LAYER, 1 CLUSTER, 2 SIZE, 3 MARK, 4 VALUE (NONE). BAD.";
        of("Promise 4", words, "each of them", () -> {
            DrawnList x = new DrawnList();
            x.name(3, 7, 20, 2);
            x.answer(0, 9, 0);
            int[] want = {3, 7, 20, 2, 9};
            for (int what = 0; what < 5; what++) {
                due("about " + what, x.about(0, what), want[what]);
            }
        });
        of("Promise 4", words, "NONE at first", () -> due("value", Lists.alike(1).about(0, 4), NONE));
        of("Promise 4", words, "what is 0 to 4", () -> refused(BAD, "about", x -> x.about(0, -1), x -> x.about(0, 5), x -> x.about(0, LOW), x -> x.about(0, HIGH)));
        of("Promise 4", words, "a name that there is", () -> refused(BAD, "about", x -> x.about(-1, 0), x -> x.about(6, 0), x -> x.about(29, 4), x -> x.about(30, 0),
                x -> x.about(LOW, 0), x -> x.about(HIGH, 0)));
        of("Promise 4", words, "the last of thirty, and no more", () -> {
            due("the last", Lists.full().about(29, 0), 1);
            refused("one more", Lists::full, x -> x.about(30, 0), BAD);
        });
    }

    private void answer() {
        of("Promise 5", "An ANSWER more: how many.", "the first is 1, of whichever name", () -> {
            DrawnList x = Lists.alike(2);
            due("first", x.answer(1, 0, 0), 1);
            due("second", x.answer(0, 0, 0), 2);
            due("the same again", x.answer(0, 0, 0), 3);
            due("it will not tell", x.answer(0, NONE, 0), 4);
        });
        of("Promise 5", "BAD: also a DAY; FULL.", "no such name is BAD", () -> refused(BAD, "answer", x -> x.answer(-1, 0, 0), x -> x.answer(6, 0, 0), x -> x.answer(LOW, 0, 0),
                x -> x.answer(HIGH, 0, 0)));
        of("Promise 5", "BAD: also a DAY; FULL.", "BAD ahead of FULL, by each argument", () -> {
            refused("name", () -> answered(120), x -> x.answer(2, 0, 0), BAD);
            refused("value", () -> answered(120), x -> x.answer(0, 10001, 0), BAD);
            refused("less than NONE", () -> answered(120), x -> x.answer(0, -2, 0), BAD);
            refused("day", () -> answered(120), x -> x.answer(0, 0, 400), BAD);
        });
        of("Promise 5", "BAD: also a DAY; FULL.", "a day behind AS OF is no BAD", () -> {
            DrawnList x = Lists.alike(1);
            x.asOf(3);
            due("answer", x.answer(0, 5, 4), 1);
            due("not yet", x.about(0, 4), NONE);
        });
        of("Refusals", ORDER, "name and answer: BAD, FULL", () -> {
            due("name", Lists.alike(30).name(-1, 0, 1, 0), BAD);
            due("answer", answered(120).answer(0, 0, -1), BAD);
        });
    }

    private void asOf() {
        of("Promise 6", "AS OF a DAY: what it was. BAD.", "days 0 and 399", () -> {
            DrawnList x = new DrawnList();
            due("at first", x.asOf(0), 399);
            due("0", x.asOf(399), 0);
            due("399", x.asOf(399), 399);
        });
        of("Promise 6", "AS OF a DAY: what it was. BAD.", "beyond both ends", () -> refused(BAD, "asOf", x -> x.asOf(-1), x -> x.asOf(400), x -> x.asOf(LOW), x -> x.asOf(HIGH)));
    }

    private void many() {
        String words = "How many NAMES of a LAYER (what = 0), of a CLUSTER (1), of a MARK (2), all (3, of 0). BAD.";
        of("Promise 7", words, "the first and the last of each", () -> {
            DrawnList x = new DrawnList();
            x.name(0, 0, 1, 0);
            x.name(3, 7, 1, 2);
            x.name(3, 7, 1, 2);
            int[] last = {3, 7, 2};
            for (int what = 0; what < 3; what++) {
                due("first of " + what, x.many(what, 0), 1);
                due("last of " + what, x.many(what, last[what]), 2);
                due("between " + what, x.many(what, 1), 0);
            }
            due("all", x.many(3, 0), 3);
        });
        of("Promise 7", words, "all thirty of one layer, cluster, mark", () -> {
            DrawnList x = Lists.alike(30);
            for (int what = 0; what < 4; what++) {
                due("of " + what, x.many(what, 0), 30);
            }
        });
        of("Promise 7", words, "no such layer", () -> refused(BAD, "many", x -> x.many(0, -1), x -> x.many(0, 4), x -> x.many(0, LOW), x -> x.many(0, HIGH)));
        of("Promise 7", words, "no such cluster", () -> refused(BAD, "many", x -> x.many(1, -1), x -> x.many(1, 8), x -> x.many(1, LOW), x -> x.many(1, HIGH)));
        of("Promise 7", words, "no such mark", () -> refused(BAD, "many", x -> x.many(2, -1), x -> x.many(2, 3), x -> x.many(2, LOW), x -> x.many(2, HIGH)));
        of("Promise 7", words, "all of 0 alone", () -> refused(BAD, "many", x -> x.many(3, -1), x -> x.many(3, 1), x -> x.many(3, HIGH)));
        of("Promise 7", words, "what is 0 to 3", () -> refused(BAD, "many", x -> x.many(-1, 0), x -> x.many(4, 0), x -> x.many(LOW, 0), x -> x.many(HIGH, 0)));
    }
}
