import java.lang.management.ManagementFactory;

/** After an object has been made no call makes another: all calls of a run live in one room. */
public final class RoomTest {
    /** So many rounds and no more come to at most 512 calls of an object. */
    private static final int ROUNDS_OF_AN_OBJECT = 3;
    private static final int OBJECTS = 7;

    private static long answers;

    public static void main(String[] args) {
        Check check = new Check("RoomTest");
        // Classes are loaded and methods linked at first use; that is not the calls' own.
        callEverything(objects());
        DrawnList[] all = objects();
        com.sun.management.ThreadMXBean threads = (com.sun.management.ThreadMXBean) ManagementFactory.getThreadMXBean();
        long self = Thread.currentThread().getId();
        threads.getThreadAllocatedBytes(self);
        long before = threads.getThreadAllocatedBytes(self);
        callEverything(all);
        long made = threads.getThreadAllocatedBytes(self) - before;
        check.holds("calls made " + made + " bytes, answers were " + answers, made < 1024);
        before = threads.getThreadAllocatedBytes(self);
        DrawnList y = new DrawnList();
        made = threads.getThreadAllocatedBytes(self) - before;
        check.holds("an object of " + made + " bytes, with " + y.count(0) + " names", made < 16384);
        check.close();
    }

    private static void text(DrawnList x, int plan, int kind, int first, int between, int second) {
        x.wipe(plan);
        x.type(plan, kind);
        x.type(plan, first);
        for (int k = 0; k < (between == 0 ? 0 : between == ',' ? 3 : 1); k++) {
            x.type(plan, between);
            x.type(plan, second);
        }
    }

    private static DrawnList[] objects() {
        DrawnList[] all = new DrawnList[OBJECTS];
        for (int k = 0; k < OBJECTS; k++) {
            all[k] = new DrawnList();
        }
        return all;
    }

    private static void callEverything(DrawnList[] all) {
        for (int k = 0; k < all.length; k++) {
            callEverything(all[k], ROUNDS_OF_AN_OBJECT * k);
        }
    }

    private static void callEverything(DrawnList x, int first) {
        for (int i = 0; i < 30; i++) {
            x.name(i % 4, i % 8, 1 + i % 20, i % 3);
            x.answer(i, i * 300, i);
        }
        for (int round = first; round < first + ROUNDS_OF_AN_OBJECT; round++) {
            text(x, 0, 'a', '9', 0, 0);
            text(x, 1, 'l', '2', ',', '3');
            text(x, 2, round % 2 == 0 ? 'e' : 'z', '4', 0, 0);
            text(x, 3, 't', '3', 'x', '2');
            for (int plan = 0; plan < 4; plan++) {
                askOfPlan(x, plan, round);
            }
            x.asOf(20 + round);
            x.known(round % 2, round % 3, 1000 * round);
            x.cost(round % 8, round);
            callSheets(x, round);
            answers += x.digest();
        }
    }

    private static void askOfPlan(DrawnList x, int plan, int round) {
        int draw = x.lots(plan, round);
        answers += x.fault(plan) + x.can(plan) + x.draws(plan) + x.share(plan, round, 0) + x.both(plan, round, round + 1, 1);
        answers += x.width(plan, 0) + x.makes(plan, draw) + x.sum(plan, draw, 0) + x.silent(draw) + x.spread(plan, 0);
        answers += x.wider(0, plan) + x.edge(plan, 1) + x.weight(plan, draw, 30, round) + x.led(plan, draw, 30, 0);
        answers += x.again(plan, draw, 800, 0);
    }

    private static void callSheets(DrawnList x, int round) {
        for (int s = 0; s < 4; s++) {
            answers += x.sheet(s, s % 3, 90) + x.put(s, s % 3, 5, round) + x.get(s, s % 3, 5) + x.copy(s, 0, s, 1, 89);
            answers += x.write(s, 77) + x.read(s) + x.lose(s) + x.count(s) + x.many(3, 0) + x.about(s, 4);
        }
    }
}
