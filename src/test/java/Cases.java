import java.io.IOException;
import java.nio.file.Files;
import java.nio.file.Path;
import java.util.ArrayList;
import java.util.HashSet;
import java.util.List;
import java.util.Set;
import java.util.regex.Matcher;
import java.util.regex.Pattern;

/**
 * Tests of boundary cases. Each is named by its place in the document, by the document's words there
 * and by the edge that it tries; the words must stand at that place.
 */
abstract class Cases {
    static final int LOW = Integer.MIN_VALUE, HIGH = Integer.MAX_VALUE;
    static final int NONE = -1, BAD = -2, NOT = -3, FULL = -4;
    static final int NULL = -11, INDEX = -12, CAST = -13, STORE = -14, SIZE = -15;
    static final long LONG_BAD = Long.MIN_VALUE + 2, LONG_NOT = Long.MIN_VALUE + 3;
    static final int ALL_THIRTY = (1 << 30) - 1;

    private static final Path DOCUMENT = Path.of("../shared/DOC.md");
    private static final Pattern PLACE = Pattern.compile("(?m)^## (.*)$|======== (\\d) |^(Refusals), ");

    interface Maker {
        DrawnList make();
    }

    interface Call {
        long on(DrawnList x);
    }

    private final Check check = new Check(getClass().getSimpleName());
    private final String document = read();
    private final Set<String> names = new HashSet<>();
    private String name = "";
    private int checks;

    /** All tests of this place. */
    abstract void all();

    final void run() {
        all();
        System.out.println(names.size() + " cases");
        check.close();
    }

    private static String read() {
        try {
            return Files.readString(DOCUMENT);
        } catch (IOException e) {
            throw new IllegalStateException(DOCUMENT + " cannot be read", e);
        }
    }

    /** One test: place as "Terms 2", "Refusals" or "Promise 7", words as they stand there. */
    final void of(String place, String words, String edge, Runnable body) {
        name = place + " \"" + words + "\": " + edge;
        checks = 0;
        check.holds(name + ": its words stand there", section(place).contains(words));
        check.holds(name + ": its name is its own", names.add(name));
        body.run();
        check.holds(name + ": it tries something", checks > 0);
    }

    final void due(String what, long got, long want) {
        checks++;
        check.due(name + ": " + what, got, want);
    }

    /** The call is answered so, and changes nothing but count() 8 where the answer is a finding. */
    final void refused(String what, Maker maker, Call call, long answer) {
        boolean found = answer <= NULL && answer >= SIZE;
        refused(what, maker, call, answer, found ? (int) (-10 - answer) : 0);
    }

    /** Each of the calls likewise, of the object of everything. */
    final void refused(long answer, String what, Call... calls) {
        for (int k = 0; k < calls.length; k++) {
            refused(what + ", call " + k, Lists::rich, calls[k], answer);
        }
    }

    /** Likewise get(), whose findings all answer the least int. */
    final void getRefused(String what, Maker maker, Call call, int finding) {
        refused(what, maker, call, LOW, finding);
    }

    final void getRefused(int finding, String what, Call... calls) {
        for (int k = 0; k < calls.length; k++) {
            getRefused(what + ", call " + k, Lists::rich, calls[k], finding);
        }
    }

    private void refused(String what, Maker maker, Call call, long answer, int finding) {
        DrawnList called = maker.make();
        DrawnList spared = maker.make();
        due(what, call.on(called), answer);
        due(what + ", latest finding", called.count(8), finding == 0 ? spared.count(8) : finding);
        List<String> now = state(called);
        List<String> before = state(spared);
        for (int i = 0; i < before.size(); i++) {
            due(what + " changes nothing: " + now.get(i) + " was " + before.get(i), now.get(i).equals(before.get(i)) ? 1 : 0, 1);
        }
    }

    /** All that can be asked of an object, but count() 8. Asking for it changes the object. */
    private static List<String> state(DrawnList x) {
        List<String> all = new ArrayList<>();
        for (int what = 0; what <= 9; what++) {
            if (what != 8) {
                all.add("count " + what + ": " + x.count(what));
            }
        }
        all.add("digest: " + x.digest());
        for (int day : new int[] {0, 3, 7, 8, 9, 399}) {
            x.asOf(day);
            all.add("digest as of " + day + ": " + x.digest());
        }
        for (int l = 0; l < 4; l++) {
            all.add("known of layer " + l + ": " + x.known(0, l, 0));
        }
        for (int m = 0; m < 3; m++) {
            all.add("known of mark " + m + ": " + x.known(1, m, 0));
        }
        for (int c = 0; c < 8; c++) {
            all.add("cost of " + c + ": " + x.cost(c, 0));
        }
        for (int s = 0; s < 4; s++) {
            for (int form = 0; form < 3; form++) {
                for (int i = 0; i < 6; i++) {
                    all.add("item " + s + " " + form + " " + i + ": " + x.get(s, form, i));
                }
            }
            all.add("items of " + s + ": " + x.lose(s));
        }
        return all;
    }

    private String section(String place) {
        Matcher m = PLACE.matcher(document);
        String wanted = place.startsWith("Promise") ? place + ":" : place;
        while (m.find()) {
            String here = m.group(1) != null ? m.group(1) : m.group(2) != null ? "Terms " + m.group(2) : m.group(3);
            if (here.startsWith(wanted)) {
                int begin = m.start();
                int end = m.find() ? m.start() : document.length();
                return document.substring(begin, end).replaceAll("\\s+", " ");
            }
        }
        return "";
    }
}
