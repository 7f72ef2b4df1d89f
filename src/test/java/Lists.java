/** Objects and plans that several tests begin with. */
final class Lists {
    private Lists() { }

    static void plan(DrawnList x, int plan, String text) {
        x.wipe(plan);
        for (int i = 0; i < text.length(); i++) {
            x.type(plan, text.charAt(i));
        }
    }

    static DrawnList planned(String text) {
        return with(new DrawnList(), text);
    }

    /** The object itself, its plan 0 as told. */
    static DrawnList with(DrawnList x, String text) {
        plan(x, 0, text);
        return x;
    }

    /** Names of one layer, cluster and mark, of these sizes. */
    static DrawnList sized(int... sizes) {
        DrawnList x = new DrawnList();
        for (int size : sizes) {
            x.name(0, 0, size, 0);
        }
        return x;
    }

    /** So many names of layer, cluster and mark 0, of size 1. */
    static DrawnList alike(int names) {
        DrawnList x = new DrawnList();
        for (int i = 0; i < names; i++) {
            x.name(0, 0, 1, 0);
        }
        return x;
    }

    /** Names in clusters by numbers, so many in each; layers and marks go round. */
    static DrawnList clustered(int... counts) {
        DrawnList x = new DrawnList();
        for (int c = 0; c < counts.length; c++) {
            for (int k = 0; k < counts[c]; k++) {
                int number = x.count(0);
                x.name(number % 4, c, 1 + number % 20, number % 3);
            }
        }
        return x;
    }

    /** Names in layers by numbers, so many in each. */
    static DrawnList layered(int... counts) {
        DrawnList x = new DrawnList();
        for (int l = 0; l < counts.length; l++) {
            for (int k = 0; k < counts[l]; k++) {
                x.name(l, l, 1, 0);
            }
        }
        return x;
    }

    /** Thirty names; layers, clusters, sizes and marks go round. */
    static DrawnList full() {
        DrawnList x = new DrawnList();
        for (int i = 0; i < 30; i++) {
            x.name(i % 4, i % 8, 1 + i % 20, i % 3);
        }
        return x;
    }

    /** The object itself, its names told these values on day 0. */
    static DrawnList told(DrawnList x, int... values) {
        for (int i = 0; i < values.length; i++) {
            x.answer(i, values[i], 0);
        }
        return x;
    }

    /**
     * Something of everything, nothing as it is at first: six names, answers as of day 8, a plan of
     * each of four kinds, known sums, costs, a sheet of five items of each form and one that is lost,
     * CAST found.
     */
    static DrawnList rich() {
        DrawnList x = new DrawnList();
        int[][] names = {{0, 0, 3, 0}, {0, 1, 5, 1}, {1, 1, 2, 2}, {1, 2, 7, 0}, {2, 2, 1, 1}, {2, 5, 4, 2}};
        for (int[] n : names) {
            x.name(n[0], n[1], n[2], n[3]);
        }
        int[][] answers = {{0, 10, 3}, {1, 20, 3}, {2, 30, 3}, {3, 40, 9}, {2, -1, 7}, {5, 60, 8}};
        for (int[] a : answers) {
            x.answer(a[0], a[1], a[2]);
        }
        x.asOf(8);
        String[] texts = {"a3", "l1,1,1,0", "z3", "t2x1"};
        for (int p = 0; p < texts.length; p++) {
            plan(x, p, texts[p]);
        }
        x.known(0, 0, 100);
        x.known(0, 3, 7);
        x.known(1, 1, 50);
        x.cost(1, 9);
        x.cost(7, 0);
        for (int s = 0; s < 3; s++) {
            x.sheet(s, s, 5);
            for (int i = 0; i < 5; i++) {
                x.put(s, s, i, 10 * s + i);
            }
        }
        x.put(0, 1, 0, 0);
        return x;
    }

    /** The object of everything, its plan 0 one that cannot be. */
    static DrawnList without() {
        return with(rich(), "a7");
    }
}
