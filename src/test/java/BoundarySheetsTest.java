/** Boundary cases of sheets, of count and digest: the document's findings and promises 28 to 35, sentence by sentence. */
public final class BoundarySheetsTest extends Cases {
    public static void main(String[] args) {
        new BoundarySheetsTest().run();
    }

    void all() {
        fourSheets();
        forms();
        items();
        findings();
        sheet();
        lose();
        put();
        get();
        copy();
        copyIndex();
        copyRefused();
        write();
        count();
        latestFinding();
        digest();
        constants();
    }

    private static DrawnList sheet(int form, int n) {
        DrawnList x = new DrawnList();
        x.sheet(0, form, n);
        return x;
    }

    private void items(DrawnList x, int s, int form, int... want) {
        for (int i = 0; i < want.length; i++) {
            due("item " + i + " of " + s, x.get(s, form, i), want[i]);
        }
    }

    private void fourSheets() {
        String words = "SHEETS 0 .. 3 are LOST (at first) or a row of a FORM";
        of("Terms 1", words, "the first and the last, apart", () -> {
            DrawnList x = new DrawnList();
            due("sheet 0", x.sheet(0, 0, 2), 2);
            due("sheet 3", x.sheet(3, 2, 3), 3);
            x.put(0, 0, 0, 7);
            x.put(3, 2, 0, 8);
            due("item of 0", x.get(0, 0, 0), 7);
            due("item of 3", x.get(3, 2, 0), 8);
            due("sheet 1 is lost", x.lose(1), NULL);
            due("sheet 2 is lost", x.lose(2), NULL);
        });
        for (int beyond : new int[] {-1, 4, LOW, HIGH}) {
            of("Terms 1", words, "there is no sheet " + beyond, () -> {
                refused(BAD, "BAD", x -> x.sheet(beyond, 0, 1), x -> x.lose(beyond), x -> x.put(beyond, 0, 0, 0), x -> x.write(beyond, 1),
                        x -> x.read(beyond), x -> x.copy(beyond, 0, 0, 0, 0), x -> x.copy(0, 0, beyond, 0, 0));
                getRefused(0, "the least int", x -> x.get(beyond, 0, 0));
            });
        }
        of("Terms 1", words, "lost, a row, lost again", () -> {
            DrawnList x = new DrawnList();
            due("lost at first", x.put(2, 1, 0, 1), NULL);
            x.sheet(2, 1, 1);
            due("a row", x.put(2, 1, 0, 1), 1);
            x.lose(2);
            due("lost again", x.put(2, 1, 0, 1), NULL);
        });
    }

    private void forms() {
        String words = "a row of a FORM: 0 bytes, 1 shorts, 2 ints";
        for (int beyond : new int[] {-1, 3, LOW, HIGH}) {
            of("Terms 1", words, "there is no form " + beyond, () -> {
                refused(BAD, "BAD", x -> x.sheet(0, beyond, 1), x -> x.put(0, beyond, 0, 0));
                getRefused(0, "the least int", x -> x.get(0, beyond, 0));
            });
        }
        int[] given = {127, 128, 255, 256, -128, -129, 32767, 32768, 65535, 65536, -32768, -32769, HIGH, LOW, -1, 0};
        int[] bytes = {127, -128, -1, 0, -128, 127, -1, 0, -1, 0, 0, -1, -1, 0, -1, 0};
        int[] shorts = {127, 128, 255, 256, -128, -129, 32767, -32768, -1, 0, -32768, 32767, -1, 0, -1, 0};
        for (int k = 0; k < given.length; k++) {
            int at = k;
            of("Promise 30", "becomes v (the lowest bits that it has): 1.", "of " + given[k], () -> {
                DrawnList x = Lists.rich();
                due("bytes", x.put(0, 0, 4, given[at]), 1);
                due("shorts", x.put(1, 1, 4, given[at]), 1);
                due("ints", x.put(2, 2, 4, given[at]), 1);
                due("of bytes", x.get(0, 0, 4), bytes[at]);
                due("of shorts", x.get(1, 1, 4), shorts[at]);
                due("of ints", x.get(2, 2, 4), given[at]);
                due("the one ahead stays", x.get(0, 0, 3), 3);
            });
        }
    }

    private void items() {
        String words = "of 0 to 90 items (0 at first)";
        for (int k = 0; k < 3; k++) {
            int form = k;
            of("Terms 1", words, "90 of form " + form, () -> {
                DrawnList x = sheet(form, 0);
                due("sheet", x.sheet(0, form, 90), 90);
                due("first", x.get(0, form, 0), 0);
                due("last", x.get(0, form, 89), 0);
                due("put", x.put(0, form, 89, 6), 1);
                due("last", x.get(0, form, 89), 6);
                due("one more", x.put(0, form, 90, 6), INDEX);
                due("all", x.lose(0), 90);
            });
            of("Terms 1", words, "0 of form " + form, () -> {
                DrawnList x = new DrawnList();
                due("sheet", x.sheet(0, form, 0), 0);
                due("none", x.put(0, form, 0, 6), INDEX);
                due("it is no lost one", x.lose(0), 0);
            });
            of("Terms 1", words, "one of form " + form, () -> {
                DrawnList x = sheet(form, 1);
                due("first", x.put(0, form, 0, 6), 1);
                due("one more", x.put(0, form, 1, 6), INDEX);
                due("one less", x.put(0, form, -1, 6), INDEX);
            });
        }
        of("Terms 1", words, "91 is BAD, -1 is SIZE", () -> {
            refused(BAD, "above 90", x -> x.sheet(0, 0, 91), x -> x.sheet(3, 2, 91), x -> x.sheet(0, 0, HIGH));
            refused(SIZE, "below 0", x -> x.sheet(0, 0, -1), x -> x.sheet(3, 2, -1), x -> x.sheet(0, 0, LOW));
        });
        of("Terms 1", words, "0 at first, also of a row that comes in another's place", () -> {
            DrawnList x = sheet(2, 3);
            for (int i = 0; i < 3; i++) {
                x.put(0, 2, i, LOW);
            }
            x.sheet(0, 2, 3);
            items(x, 0, 2, 0, 0, 0);
            x.put(0, 2, 2, 9);
            x.sheet(0, 2, 1);
            x.sheet(0, 2, 3);
            items(x, 0, 2, 0, 0, 0);
            x.put(0, 2, 2, 9);
            x.lose(0);
            x.sheet(0, 0, 3);
            items(x, 0, 0, 0, 0, 0);
        });
    }

    private void findings() {
        String words = "FINDINGS (answers -10 less the number; they change nothing but count() 8): 1 NULL: the SHEET is LOST; 2 INDEX: there is no such item; "
                + "3 CAST: it has another FORM; 4 STORE: unlike FORMS; 5 SIZE: below 0.";
        of("Terms 1", words, "each of the five", () -> {
            refused(-11, "NULL", x -> x.lose(3));
            refused(-12, "INDEX", x -> x.put(0, 0, 5, 0));
            refused(-13, "CAST", x -> x.put(0, 1, 0, 0));
            refused(-14, "STORE", x -> x.copy(0, 0, 1, 0, 0));
            refused(-15, "SIZE", x -> x.sheet(0, 0, -1));
        });
        of("Refusals", "They change nothing (FINDINGS but count() 8).", "a BAD one is no finding", () -> {
            DrawnList x = new DrawnList();
            x.lose(4);
            x.put(0, 3, 0, 0);
            x.get(-1, 0, 0);
            x.sheet(0, 0, 91);
            x.copy(4, 0, 0, 0, 0);
            x.write(0, 1);
            x.read(-1);
            due("none yet", x.count(8), 0);
            x.lose(0);
            x.lose(4);
            due("the one before stays", x.count(8), 1);
        });
    }

    private void sheet() {
        String words = "A SHEET is a new row of a FORM with n items: n. BAD: SHEET, FORM, above 90; SIZE.";
        of("Promise 28", words, "a row in a row's place, of another form and length", () -> {
            DrawnList x = Lists.rich();
            due("sheet", x.sheet(0, 2, 7), 7);
            items(x, 0, 2, 0, 0, 0, 0, 0, 0, 0);
            due("of the old form", x.put(0, 0, 0, 1), CAST);
            due("of the new length", x.put(0, 2, 6, 1), 1);
        });
        of("Promise 28", words, "BAD ahead of SIZE", () ->
                refused(BAD, "sheet", x -> x.sheet(4, 0, -1), x -> x.sheet(-1, 0, -1), x -> x.sheet(0, 3, -1), x -> x.sheet(0, -1, LOW)));
        of("Promise 28", words, "a refused one leaves the old row", () -> {
            DrawnList x = Lists.rich();
            due("SIZE", x.sheet(2, 0, -1), SIZE);
            items(x, 2, 2, 20, 21, 22, 23, 24);
            due("BAD", x.sheet(2, 0, 91), BAD);
            items(x, 2, 2, 20, 21, 22, 23, 24);
            due("a lost one stays lost", x.sheet(3, 0, -1), SIZE);
            due("lost", x.lose(3), NULL);
        });
    }

    private void lose() {
        String words = "It is LOST: how many items it had. BAD; NULL.";
        of("Promise 29", words, "of 0, 1, 90 items", () -> {
            due("0", sheet(0, 0).lose(0), 0);
            due("1", sheet(1, 1).lose(0), 1);
            due("90", sheet(2, 90).lose(0), 90);
        });
        of("Promise 29", words, "lost already", () -> {
            refused(NULL, "lose", x -> x.lose(3));
            DrawnList x = sheet(0, 3);
            due("first", x.lose(0), 3);
            due("second", x.lose(0), NULL);
            due("third", x.lose(0), NULL);
        });
        of("Promise 29", words, "no such sheet", () -> refused(BAD, "lose", x -> x.lose(-1), x -> x.lose(4), x -> x.lose(LOW), x -> x.lose(HIGH)));
        of("Promise 29", words, "the others stay", () -> {
            DrawnList x = Lists.rich();
            x.lose(1);
            items(x, 0, 0, 0, 1, 2, 3, 4);
            items(x, 2, 2, 20, 21, 22, 23, 24);
        });
    }

    private void put() {
        String words = "BAD; NULL; CAST; INDEX.";
        of("Promise 30", words, "the first item and the last, and beyond them", () -> {
            DrawnList x = Lists.rich();
            due("first", x.put(1, 1, 0, 70), 1);
            due("last", x.put(1, 1, 4, 74), 1);
            items(x, 1, 1, 70, 11, 12, 13, 74);
            refused(INDEX, "beyond", y -> y.put(1, 1, -1, 0), y -> y.put(1, 1, 5, 0), y -> y.put(1, 1, 90, 0), y -> y.put(1, 1, LOW, 0), y -> y.put(1, 1, HIGH, 0));
        });
        of("Promise 30", words, "as of each other form", () ->
                refused(CAST, "put", x -> x.put(0, 1, 0, 0), x -> x.put(0, 2, 0, 0), x -> x.put(1, 0, 0, 0), x -> x.put(1, 2, 0, 0), x -> x.put(2, 0, 0, 0), x -> x.put(2, 1, 0, 0)));
        of("Promise 30", words, "lost", () -> refused(NULL, "put", x -> x.put(3, 0, 0, 0), x -> x.put(3, 2, 4, 1)));
        of("Promise 30", words, "BAD ahead of NULL, NULL of CAST and INDEX, CAST of INDEX", () -> {
            refused(BAD, "BAD and NULL", x -> x.put(3, 3, 0, 0), x -> x.put(3, -1, -1, 0));
            refused(BAD, "BAD and CAST, INDEX", x -> x.put(0, 3, 5, 0));
            refused(NULL, "NULL and INDEX", x -> x.put(3, 0, -1, 0), x -> x.put(3, 1, 90, 0));
            refused(CAST, "CAST and INDEX", x -> x.put(0, 1, 5, 0), x -> x.put(2, 0, -1, 0));
        });
        of("Promise 30", words, "what was lost as one form does not cast", () -> {
            DrawnList x = Lists.rich();
            x.lose(2);
            due("NULL, though of another form", x.put(2, 0, 0, 0), NULL);
            due("NULL, though of its form", x.put(2, 2, 0, 0), NULL);
        });
    }

    private void get() {
        String words = "Item i of it. BAD: the least int; so are NULL, CAST, INDEX (count() 8 tells).";
        of("Promise 31", words, "the first item and the last, and beyond them", () -> {
            items(Lists.rich(), 1, 1, 10, 11, 12, 13, 14);
            getRefused(2, "INDEX", x -> x.get(1, 1, -1), x -> x.get(1, 1, 5), x -> x.get(1, 1, 90), x -> x.get(1, 1, LOW), x -> x.get(1, 1, HIGH));
            getRefused("of an empty row", () -> sheet(0, 0), x -> x.get(0, 0, 0), 2);
        });
        of("Promise 31", words, "as of each other form", () ->
                getRefused(3, "CAST", x -> x.get(0, 1, 0), x -> x.get(0, 2, 0), x -> x.get(1, 0, 0), x -> x.get(1, 2, 0), x -> x.get(2, 0, 0), x -> x.get(2, 1, 0)));
        of("Promise 31", words, "lost", () -> getRefused(1, "NULL", x -> x.get(3, 0, 0), x -> x.get(3, 2, 4)));
        of("Promise 31", words, "BAD leaves the latest finding", () -> getRefused(0, "BAD", x -> x.get(4, 0, 0), x -> x.get(0, 3, 0), x -> x.get(-1, -1, -1)));
        of("Promise 31", words, "BAD ahead of NULL, NULL of CAST and INDEX, CAST of INDEX", () -> {
            getRefused(0, "BAD and NULL", x -> x.get(3, 3, 0), x -> x.get(3, -1, -1));
            getRefused(0, "BAD and CAST, INDEX", x -> x.get(0, 3, 5));
            getRefused(1, "NULL and INDEX", x -> x.get(3, 1, -1));
            getRefused(3, "CAST and INDEX", x -> x.get(0, 1, 5), x -> x.get(2, 0, -1));
        });
        of("Promise 31", words, "an item that is the least int is no finding", () -> {
            DrawnList x = sheet(2, 1);
            x.put(0, 2, 0, LOW);
            due("item", x.get(0, 2, 0), LOW);
            due("no finding", x.count(8), 0);
        });
    }

    /** Sheets 0 and 1 of ints, of five items each: 10 to 14 and 20 to 24. */
    private static DrawnList two() {
        DrawnList x = new DrawnList();
        for (int s = 0; s < 2; s++) {
            x.sheet(s, 2, 5);
            for (int i = 0; i < 5; i++) {
                x.put(s, 2, i, 10 * s + 10 + i);
            }
        }
        return x;
    }

    private void copy() {
        String words = "n items of SHEET s, from i on, come to SHEET t (perhaps s, as they were), from j on: 1.";
        of("Promise 32", words, "all, one, none", () -> {
            DrawnList x = two();
            due("none", x.copy(0, 0, 1, 0, 0), 1);
            items(x, 1, 2, 20, 21, 22, 23, 24);
            due("the last to the first", x.copy(0, 4, 1, 0, 1), 1);
            items(x, 1, 2, 14, 21, 22, 23, 24);
            due("the first to the last", x.copy(0, 0, 1, 4, 1), 1);
            items(x, 1, 2, 14, 21, 22, 23, 10);
            due("all", x.copy(0, 0, 1, 0, 5), 1);
            items(x, 1, 2, 10, 11, 12, 13, 14);
            items(x, 0, 2, 10, 11, 12, 13, 14);
        });
        of("Promise 32", words, "within one, upward, downward, in its place", () -> {
            DrawnList x = two();
            due("upward", x.copy(0, 0, 0, 1, 4), 1);
            items(x, 0, 2, 10, 10, 11, 12, 13);
            due("downward", x.copy(0, 1, 0, 0, 4), 1);
            items(x, 0, 2, 10, 11, 12, 13, 13);
            due("in its place", x.copy(0, 0, 0, 0, 5), 1);
            items(x, 0, 2, 10, 11, 12, 13, 13);
        });
        of("Promise 32", words, "between rows of unlike lengths", () -> {
            DrawnList x = two();
            x.sheet(2, 2, 90);
            due("to the end of ninety", x.copy(0, 0, 2, 85, 5), 1);
            due("the last", x.get(2, 2, 89), 14);
            due("from the end of ninety", x.copy(2, 88, 1, 3, 2), 1);
            items(x, 1, 2, 20, 21, 22, 13, 14);
        });
        of("Promise 32", words, "each form", () -> {
            for (int form = 0; form < 3; form++) {
                DrawnList x = sheet(form, 2);
                x.sheet(3, form, 1);
                x.put(0, form, 1, -5);
                due("copy", x.copy(0, 1, 3, 0, 1), 1);
                due("item", x.get(3, form, 0), -5);
            }
        });
    }

    private void copyIndex() {
        String words = "INDEX: below 0, not so many.";
        int[][] taken = {{5, 0, 0}, {0, 5, 0}, {5, 5, 0}, {4, 0, 1}, {0, 4, 1}, {0, 0, 5}, {1, 1, 4}};
        for (int[] t : taken) {
            of("Promise 32", words, t[2] + " from " + t[0] + " on to " + t[1] + " on is taken", () -> {
                due("between two", two().copy(0, t[0], 1, t[1], t[2]), 1);
                due("within one", two().copy(1, t[0], 1, t[1], t[2]), 1);
            });
        }
        int[][] beyond = {{-1, 0, 1}, {0, -1, 1}, {0, 0, -1}, {-1, 0, 0}, {0, -1, 0}, {0, 0, 6}, {1, 0, 5}, {0, 1, 5}, {5, 0, 1}, {0, 5, 1}, {6, 0, 0}, {0, 6, 0}, {6, 0, -1},
            {HIGH, 0, 1}, {0, HIGH, 1}, {1, 0, HIGH}, {0, 1, HIGH}, {LOW, 0, 1}, {0, LOW, 1}, {0, 0, LOW}, {HIGH, 0, HIGH}, {5, 5, LOW}, {-1, 6, 0}};
        for (int[] b : beyond) {
            of("Promise 32", words, b[2] + " from " + b[0] + " on to " + b[1] + " on is INDEX", () -> {
                refused("between two", BoundarySheetsTest::two, x -> x.copy(0, b[0], 1, b[1], b[2]), INDEX);
                refused("within one", BoundarySheetsTest::two, x -> x.copy(1, b[0], 1, b[1], b[2]), INDEX);
            });
        }
        of("Promise 32", words, "to one that is shorter, from one that is shorter", () -> {
            DrawnList x = two();
            x.sheet(2, 2, 4);
            due("to it", x.copy(0, 0, 2, 0, 5), INDEX);
            due("from it", x.copy(2, 0, 0, 0, 5), INDEX);
            items(x, 2, 2, 0, 0, 0, 0);
            items(x, 0, 2, 10, 11, 12, 13, 14);
        });
        of("Promise 32", words, "of empty rows", () -> {
            DrawnList x = sheet(0, 0);
            due("none", x.copy(0, 0, 0, 0, 0), 1);
            due("one", x.copy(0, 0, 0, 0, 1), INDEX);
            due("from 1 on", x.copy(0, 1, 0, 0, 0), INDEX);
        });
    }

    private void copyRefused() {
        String words = "BAD: the SHEETS; NULL: s, t; STORE; INDEX: below 0, not so many.";
        of("Promise 32", words, "NULL by s, by t, by both", () ->
                refused(NULL, "copy", x -> x.copy(3, 0, 0, 0, 0), x -> x.copy(0, 0, 3, 0, 0), x -> x.copy(3, 0, 3, 0, 0)));
        of("Promise 32", words, "STORE of each two unlike forms, also of no items", () ->
                refused(STORE, "copy", x -> x.copy(0, 0, 1, 0, 1), x -> x.copy(1, 0, 0, 0, 1), x -> x.copy(0, 0, 2, 0, 0), x -> x.copy(2, 0, 0, 0, 0),
                        x -> x.copy(1, 0, 2, 0, 5), x -> x.copy(2, 0, 1, 0, 5)));
        of("Promise 32", words, "BAD ahead of NULL", () -> refused(BAD, "copy", x -> x.copy(3, 0, 4, 0, 0), x -> x.copy(-1, 0, 3, 0, 0)));
        of("Promise 32", words, "BAD ahead of STORE and INDEX", () -> refused(BAD, "copy", x -> x.copy(0, -1, 4, 0, 1), x -> x.copy(4, 0, 1, 9, 9)));
        of("Promise 32", words, "NULL ahead of STORE and INDEX", () -> refused(NULL, "copy", x -> x.copy(3, -1, 1, 0, 1), x -> x.copy(1, 0, 3, 9, 9), x -> x.copy(3, 0, 3, 0, -1)));
        of("Promise 32", words, "STORE ahead of INDEX", () -> refused(STORE, "copy", x -> x.copy(0, -1, 1, 0, 1), x -> x.copy(0, 0, 1, 0, 6), x -> x.copy(2, 0, 1, 0, -1)));
    }

    private void write() {
        String words = "NAMES of a DRAW, by numbers, come to a SHEET from item 0 on (the lowest bits), as many as there are items: how many. BAD; NULL.";
        of("Promise 33", words, "as many as items, one more, one less", () -> {
            DrawnList x = Lists.rich();
            due("five", x.write(1, 0b111110), 5);
            items(x, 1, 1, 1, 2, 3, 4, 5);
            due("six", x.write(1, 0b111111), 5);
            items(x, 1, 1, 0, 1, 2, 3, 4);
            due("four", x.write(1, 0b111100), 4);
            items(x, 1, 1, 2, 3, 4, 5, 4);
            due("none", x.write(1, 0), 0);
            items(x, 1, 1, 2, 3, 4, 5, 4);
        });
        of("Promise 33", words, "all thirty, of each form", () -> {
            for (int form = 0; form < 3; form++) {
                DrawnList x = Lists.full();
                x.sheet(0, form, 90);
                x.put(0, form, 30, 7);
                due("write", x.write(0, ALL_THIRTY), 30);
                due("first", x.get(0, form, 0), 0);
                due("last", x.get(0, form, 29), 29);
                due("behind it", x.get(0, form, 30), 7);
            }
        });
        of("Promise 33", words, "no items", () -> {
            DrawnList x = Lists.full();
            x.sheet(0, 0, 0);
            due("write", x.write(0, ALL_THIRTY), 0);
            due("no finding", x.count(8), 0);
        });
        of("Promise 33", words, "no names", () -> {
            due("none", sheet(0, 3).write(0, 0), 0);
            refused("the first", () -> sheet(0, 3), x -> x.write(0, 1), BAD);
        });
        of("Promise 33", words, "the last name alone", () -> {
            DrawnList x = Lists.full();
            x.sheet(0, 0, 1);
            due("write", x.write(0, 1 << 29), 1);
            due("item", x.get(0, 0, 0), 29);
        });
        of("Promise 33", words, "names that there are not", () ->
                refused(BAD, "write", x -> x.write(0, 64), x -> x.write(0, 65), x -> x.write(0, 1 << 30), x -> x.write(0, LOW), x -> x.write(0, HIGH), x -> x.write(0, -1)));
        of("Promise 33", words, "NULL, and BAD ahead of it", () -> {
            refused(NULL, "write", x -> x.write(3, 1), x -> x.write(3, 0));
            refused(BAD, "write", x -> x.write(3, 64), x -> x.write(4, 1));
        });
        of("Promise 33", words, "it asks for no plan that makes the draw", () -> {
            DrawnList x = Lists.with(Lists.alike(4), "a1");
            x.sheet(0, 2, 4);
            due("write", x.write(0, 0b1101), 3);
            items(x, 0, 2, 0, 2, 3, 0);
        });
    }

    private void count() {
        String words = "0 NAMES, 1 those with a VALUE, 2 ANSWERS, 3 AS OF, 4 to 7 bytes of PLANS, 8 the number of the latest FINDING (0 before any), 9 CLUSTERS that have NAMES. BAD.";
        of("Promise 34", words, "at first", () -> {
            int[] want = {0, 0, 0, 399, 0, 0, 0, 0, 0, 0};
            for (int what = 0; what < 10; what++) {
                due("count " + what, new DrawnList().count(what), want[what]);
            }
        });
        of("Promise 34", words, "of everything", () -> {
            int[] want = {6, 3, 6, 8, 2, 8, 2, 4, 3, 4};
            DrawnList x = Lists.rich();
            for (int what = 0; what < 10; what++) {
                due("count " + what, x.count(what), want[what]);
            }
        });
        of("Promise 34", words, "full", () -> {
            DrawnList x = Lists.full();
            for (int k = 0; k < 120; k++) {
                x.answer(k % 30, k, k);
            }
            for (int k = 0; k < 80; k++) {
                x.type(k / 20, 'a');
            }
            int[] want = {30, 30, 120, 399, 20, 20, 20, 20, 0, 8};
            for (int what = 0; what < 10; what++) {
                due("count " + what, x.count(what), want[what]);
            }
        });
        of("Promise 34", words, "-1 and 10 are BAD", () -> refused(BAD, "count", x -> x.count(-1), x -> x.count(10), x -> x.count(LOW), x -> x.count(HIGH)));
        of("Promise 34", words, "those with a value, as of a day", () -> {
            DrawnList x = Lists.alike(3);
            x.answer(0, 1, 5);
            x.answer(0, 2, 5);
            x.answer(1, NONE, 5);
            x.answer(2, 0, 6);
            due("two", x.count(1), 2);
            x.asOf(5);
            due("one", x.count(1), 1);
            x.asOf(4);
            due("none", x.count(1), 0);
            due("answers", x.count(2), 4);
        });
        of("Promise 34", words, "one cluster, the last cluster, all eight", () -> {
            due("one", Lists.alike(30).count(9), 1);
            due("the last", Lists.clustered(0, 0, 0, 0, 0, 0, 0, 2).count(9), 1);
            due("all", Lists.full().count(9), 8);
        });
    }

    private void latestFinding() {
        String words = "8 the number of the latest FINDING (0 before any)";
        of("Promise 34", words, "one after the other, and none between", () -> {
            DrawnList x = Lists.rich();
            x.sheet(0, 0, -1);
            due("SIZE", x.count(8), 5);
            x.copy(0, 0, 1, 0, 0);
            due("STORE", x.count(8), 4);
            x.get(0, 1, 0);
            due("CAST, by get", x.count(8), 3);
            x.copy(0, 0, 0, 0, 6);
            due("INDEX, by copy", x.count(8), 2);
            x.write(3, 0);
            due("NULL, by write", x.count(8), 1);
            due("it stays where a call is done", x.put(0, 0, 0, 0) + x.count(8), 2);
            due("it stays where a call is BAD", x.put(0, 3, 0, 0) + x.count(8), -1);
            due("it stays where a call is FULL", typedFull(x) + x.count(8), FULL + 1);
        });
    }

    private static int typedFull(DrawnList x) {
        int answer = 0;
        for (int k = 0; k < 21; k++) {
            answer = x.type(0, 'a');
        }
        return answer;
    }

    /** The digest by the document's words, from the other calls' answers. */
    private static long digestOf(DrawnList x) {
        long h = 17;
        for (int what : new int[] {0, 1, 2, 3, 4, 5, 6, 7, 9}) {
            h = 31 * h + x.count(what);
        }
        for (int name = 0; name < x.count(0); name++) {
            for (int what = 0; what < 5; what++) {
                h = 31 * h + x.about(name, what);
            }
        }
        for (int p = 0; p < 4; p++) {
            h = 31 * h + x.fault(p);
            h = 31 * h + x.can(p);
            h = 31 * h + x.draws(p);
            if (x.can(p) == 1) {
                h = 31 * h + x.lots(p, 1);
                for (int name = 0; name < x.count(0); name++) {
                    h = 31 * h + x.share(p, name, 0);
                    h = 31 * h + x.share(p, name, 1);
                }
            }
        }
        return h;
    }

    private void digest() {
        String words = "h is 17; h becomes 31 h and each of: count() 0 to 7, 9";
        of("Promise 35", words, "of nothing", () -> {
            long h = 17;
            for (int k : new int[] {0, 0, 0, 399, 0, 0, 0, 0, 0}) {
                h = 31 * h + k;
            }
            for (int p = 0; p < 4; p++) {
                h = 31 * (31 * (31 * h)) + LONG_NOT;
            }
            due("digest", new DrawnList().digest(), h);
        });
        of("Promise 35", words, "of everything", () -> due("digest", Lists.rich().digest(), digestOf(Lists.rich())));
        of("Promise 35", words, "count() 8 is not in it", () -> {
            DrawnList x = Lists.rich();
            long before = x.digest();
            x.lose(3);
            due("digest", x.digest(), before);
        });
        of("Promise 35", "and, if it can be, lots() with the SEED 1 and share() 0, 1 of each NAME; as longs that wrap", "each kind of plan can be, one cannot", () -> {
            for (String text : new String[] {"", "a", "a6", "a7", "l2,2,2,0", "e1", "e30", "z1", "z22", "z23", "t4x1", "t4x0"}) {
                due("digest with " + text, Lists.with(Lists.rich(), text).digest(), digestOf(Lists.with(Lists.rich(), text)));
            }
        });
        of("Promise 35", "and, if it can be, lots() with the SEED 1 and share() 0, 1 of each NAME; as longs that wrap", "thirty names, all plans", () -> {
            DrawnList x = Lists.full();
            String[] texts = {"a15", "l4,4,3,1", "z13", "t5x2"};
            for (int p = 0; p < 4; p++) {
                Lists.plan(x, p, texts[p]);
            }
            long h = x.digest();
            due("digest", h, digestOf(x));
        });
    }

    private void constants() {
        of("The public face", "public static final int NONE = -1, BAD = -2, NOT = -3, FULL = -4;", "as they stand", () -> {
            due("NONE", DrawnList.NONE, -1);
            due("BAD", DrawnList.BAD, -2);
            due("NOT", DrawnList.NOT, -3);
            due("FULL", DrawnList.FULL, -4);
        });
        of("Refusals", "Where the answer is a long, a refusal -x is the least long and x more.", "BAD and NOT", () -> {
            DrawnList x = new DrawnList();
            due("BAD", x.draws(4), Long.MIN_VALUE + 2);
            due("NOT", x.draws(0), Long.MIN_VALUE + 3);
            due("BAD of share", x.share(0, 0, 0), Long.MIN_VALUE + 2);
            due("BAD of both", x.both(0, 0, 1, 0), Long.MIN_VALUE + 2);
            due("NOT of sum", x.sum(0, 0, 0), Long.MIN_VALUE + 3);
            due("NOT of spread", x.spread(0, 0), Long.MIN_VALUE + 3);
            due("NOT of edge", x.edge(0, 0), Long.MIN_VALUE + 3);
        });
    }
}
