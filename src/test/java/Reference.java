import java.math.BigInteger;
import java.nio.charset.StandardCharsets;
import java.util.ArrayList;
import java.util.Arrays;
import java.util.Collections;
import java.util.Comparator;
import java.util.List;
import java.util.regex.Matcher;
import java.util.regex.Pattern;

/**
 * The document's words taken one by one, without any formula: each plan's ways are written out with
 * their likelihood, and shares, widths, spreads and edges are counted over them. Meant for small lists.
 */
final class Reference {
    static final int NONE = -1, BAD = -2, NOT = -3, FULL = -4;
    private static final long LONG_BAD = Long.MIN_VALUE + 2, LONG_NOT = Long.MIN_VALUE + 3;

    /** An exact fraction, in lowest terms. */
    record Ratio(BigInteger above, BigInteger below) implements Comparable<Ratio> {
        static Ratio of(BigInteger a, BigInteger b) {
            BigInteger g = a.gcd(b);
            if (b.signum() < 0) {
                g = g.negate();
            }
            return new Ratio(a.divide(g), b.divide(g));
        }

        static Ratio of(long a, long b) {
            return of(BigInteger.valueOf(a), BigInteger.valueOf(b));
        }

        Ratio plus(Ratio o) {
            return of(above.multiply(o.below).add(o.above.multiply(below)), below.multiply(o.below));
        }

        Ratio minus(Ratio o) {
            return of(above.multiply(o.below).subtract(o.above.multiply(below)), below.multiply(o.below));
        }

        Ratio times(Ratio o) {
            return of(above.multiply(o.above), below.multiply(o.below));
        }

        Ratio by(Ratio o) {
            return of(above.multiply(o.below), below.multiply(o.above));
        }

        long floor() {
            return above.divide(below).longValueExact();
        }

        long told(int what) {
            return (what == 0 ? above : below).longValueExact();
        }

        public int compareTo(Ratio o) {
            return above.multiply(o.below).compareTo(o.above.multiply(below));
        }
    }

    record Way(int set, Ratio likely) { }

    private static final Ratio ZERO = Ratio.of(0, 1), ONE = Ratio.of(1, 1), THOUSAND = Ratio.of(1000, 1);

    private final List<int[]> names = new ArrayList<>();
    private final List<int[]> answers = new ArrayList<>();
    private int asOf = 399;
    private final List<List<Integer>> texts = new ArrayList<>();
    private final int[][] known = new int[2][4];
    private final int[] costs = {5, 5, 5, 5, 5, 5, 5, 5};
    private final Object[] sheets = new Object[4];
    private int finding;
    private int seed;
    private final String[] cachedFor = new String[4];
    private final Ratio[][] cachedShares = new Ratio[4][30];
    private final List<List<Way>> cached = new ArrayList<>(Arrays.asList(null, null, null, null));

    Reference() {
        for (int i = 0; i < 4; i++) {
            texts.add(new ArrayList<>());
        }
    }

    private static boolean out(int x, int low, int high) {
        return x < low || x > high;
    }

    private int find(int number) {
        finding = number;
        return -10 - number;
    }

    // names, answers

    int name(int layer, int cluster, int size, int mark) {
        if (out(layer, 0, 3) || out(cluster, 0, 7) || out(size, 1, 20) || out(mark, 0, 2)) {
            return BAD;
        }
        if (names.size() == 30) {
            return FULL;
        }
        names.add(new int[] {layer, cluster, size, mark});
        return names.size() - 1;
    }

    int read(int s) {
        if (out(s, 0, 3)) {
            return BAD;
        }
        if (sheets[s] == null) {
            return find(1);
        }
        int done = 0;
        while (4 * done + 4 <= length(s)) {
            int at = 4 * done;
            if (name(item(s, at), item(s, at + 1), item(s, at + 2), item(s, at + 3)) < 0) {
                break;
            }
            done++;
        }
        return done;
    }

    int about(int name, int what) {
        if (out(name, 0, names.size() - 1) || out(what, 0, 4)) {
            return BAD;
        }
        return what == 4 ? value(name) : names.get(name)[what];
    }

    private int value(int name) {
        List<int[]> mine = new ArrayList<>();
        for (int[] a : answers) {
            if (a[0] == name && a[2] <= asOf) {
                mine.add(a);
            }
        }
        // The sort keeps the order of like days, so the last one is the later.
        mine.sort(Comparator.comparingInt(a -> a[2]));
        return mine.isEmpty() ? NONE : mine.get(mine.size() - 1)[1];
    }

    int answer(int name, int value, int day) {
        if (out(name, 0, names.size() - 1) || out(value, -1, 10000) || out(day, 0, 399)) {
            return BAD;
        }
        if (answers.size() == 120) {
            return FULL;
        }
        answers.add(new int[] {name, value, day});
        return answers.size();
    }

    int asOf(int day) {
        if (out(day, 0, 399)) {
            return BAD;
        }
        int was = asOf;
        asOf = day;
        return was;
    }

    int many(int what, int of) {
        int[] last = {3, 7, 2, 0};
        if (out(what, 0, 3) || out(of, 0, last[what])) {
            return BAD;
        }
        if (what == 3) {
            return names.size();
        }
        int column = what == 2 ? 3 : what;
        return (int) names.stream().filter(n -> n[column] == of).count();
    }

    // plans

    int type(int plan, int b) {
        if (out(plan, 0, 3) || out(b, 0, 255)) {
            return BAD;
        }
        if (texts.get(plan).size() == 20) {
            return FULL;
        }
        texts.get(plan).add(b);
        return texts.get(plan).size();
    }

    int wipe(int plan) {
        if (out(plan, 0, 3)) {
            return BAD;
        }
        int was = texts.get(plan).size();
        texts.get(plan).clear();
        return was;
    }

    private static final Pattern FORM = Pattern.compile(
            "[aez][0-9]{1,2}|l[0-9]{1,2},[0-9]{1,2},[0-9]{1,2},[0-9]{1,2}|t[0-9]{1,2}x[0-9]{1,2}");

    private String text(int plan) {
        byte[] bytes = new byte[texts.get(plan).size()];
        for (int i = 0; i < bytes.length; i++) {
            bytes[i] = (byte) (int) texts.get(plan).get(i);
        }
        return new String(bytes, StandardCharsets.ISO_8859_1);
    }

    int fault(int plan) {
        if (out(plan, 0, 3)) {
            return BAD;
        }
        String text = text(plan);
        if (FORM.matcher(text).matches()) {
            return NONE;
        }
        int goesOn = 0;
        for (int k = 0; k <= text.length(); k++) {
            Matcher m = FORM.matcher(text.substring(0, k));
            if (m.matches() || m.hitEnd()) {
                goesOn = k;
            } else {
                break;
            }
        }
        return goesOn;
    }

    private int[] numbers(int plan) {
        return Arrays.stream(text(plan).substring(1).split("[,x]")).mapToInt(Integer::parseInt).toArray();
    }

    int can(int plan) {
        if (out(plan, 0, 3)) {
            return BAD;
        }
        if (fault(plan) != NONE) {
            return 0;
        }
        int[] n = numbers(plan);
        boolean can;
        switch (text(plan).charAt(0)) {
            case 'a':
                can = n[0] >= 1 && n[0] <= names.size();
                break;
            case 'l':
                can = n[0] + n[1] + n[2] + n[3] > 0;
                for (int l = 0; l < 4; l++) {
                    can &= n[l] <= many(0, l);
                }
                break;
            case 'e':
                can = n[0] >= 1 && n[0] <= 30;
                break;
            case 'z':
                can = n[0] >= 1 && allSizes() / n[0] >= 1;
                break;
            default:
                can = n[0] >= 1 && n[0] <= clusters().size() && n[1] >= 1;
        }
        return can ? 1 : 0;
    }

    private int allSizes() {
        return names.stream().mapToInt(n -> n[2]).sum();
    }

    private List<Integer> clusters() {
        List<Integer> found = new ArrayList<>();
        for (int c = 0; c < 8; c++) {
            if (many(1, c) > 0) {
                found.add(c);
            }
        }
        return found;
    }

    private List<Integer> having(int column, int of) {
        List<Integer> found = new ArrayList<>();
        for (int i = 0; i < names.size(); i++) {
            if (column < 0 || names.get(i)[column] == of) {
                found.add(i);
            }
        }
        return found;
    }

    /** All sets of n of a row, as bits. */
    private static List<Integer> sets(List<Integer> row, int n) {
        List<Integer> found = new ArrayList<>();
        if (n > row.size()) {
            return found;
        }
        if (n == 0) {
            found.add(0);
            return found;
        }
        List<Integer> tail = row.subList(1, row.size());
        for (int set : sets(tail, n - 1)) {
            found.add(set | 1 << row.get(0));
        }
        found.addAll(sets(tail, n));
        return found;
    }

    /** Each way so far goes on with each of the sets, alike likely. */
    private static List<Way> goOn(List<Way> ways, List<Integer> sets) {
        List<Way> found = new ArrayList<>();
        for (Way w : ways) {
            for (int set : sets) {
                found.add(new Way(w.set | set, w.likely.times(Ratio.of(1, sets.size()))));
            }
        }
        return found;
    }

    private List<Way> ways(int plan) {
        StringBuilder key = new StringBuilder(text(plan));
        for (int[] n : names) {
            key.append(' ').append(Arrays.toString(n));
        }
        if (!key.toString().equals(cachedFor[plan])) {
            cachedFor[plan] = key.toString();
            cached.set(plan, writeOutWays(plan));
            Arrays.fill(cachedShares[plan], null);
        }
        return cached.get(plan);
    }

    private List<Way> writeOutWays(int plan) {
        int[] n = numbers(plan);
        List<Way> start = List.of(new Way(0, ONE));
        List<Way> found = new ArrayList<>();
        switch (text(plan).charAt(0)) {
            case 'a':
                return goOn(start, sets(having(-1, 0), n[0]));
            case 'l':
                List<Way> ways = start;
                for (int l = 0; l < 4; l++) {
                    ways = goOn(ways, sets(having(0, l), n[l]));
                }
                return ways;
            case 'e':
                for (int first = 0; first < n[0]; first++) {
                    found.add(new Way(each(first, n[0]), Ratio.of(1, n[0])));
                }
                return found;
            case 'z':
                int step = allSizes() / n[0];
                for (int u = 0; u < step; u++) {
                    found.add(new Way(along(u, step, n[0]), Ratio.of(1, step)));
                }
                return found;
            default:
                List<Integer> clusterSets = sets(clusters(), n[0]);
                for (int set : clusterSets) {
                    List<Way> some = List.of(new Way(0, Ratio.of(1, clusterSets.size())));
                    for (int c = 0; c < 8; c++) {
                        if ((set >> c & 1) == 1) {
                            some = goOn(some, sets(having(1, c), Math.min(n[1], many(1, c))));
                        }
                    }
                    found.addAll(some);
                }
                return found;
        }
    }

    private int each(int first, int n) {
        int set = 0;
        for (int i = 0; i < names.size(); i++) {
            if (i % n == first) {
                set |= 1 << i;
            }
        }
        return set;
    }

    private int along(int u, int step, int n) {
        int set = 0;
        for (int j = 0; j < n; j++) {
            int point = u + j * step;
            int begin = 0;
            for (int i = 0; i < names.size(); i++) {
                int end = begin + names.get(i)[2];
                if (point >= begin && point < end) {
                    set |= 1 << i;
                }
                begin = end;
            }
        }
        return set;
    }

    long draws(int plan) {
        if (out(plan, 0, 3)) {
            return LONG_BAD;
        }
        return can(plan) == 1 ? ways(plan).size() : LONG_NOT;
    }

    private Ratio shareOf(int plan, int name) {
        ways(plan);
        if (cachedShares[plan][name] == null) {
            cachedShares[plan][name] = shareOfSet(plan, 1 << name);
        }
        return cachedShares[plan][name];
    }

    private Ratio shareOfSet(int plan, int set) {
        Ratio share = ZERO;
        for (Way w : ways(plan)) {
            if ((w.set & set) == set) {
                share = share.plus(w.likely);
            }
        }
        return share;
    }

    long share(int plan, int name, int what) {
        if (out(plan, 0, 3) || out(name, 0, names.size() - 1) || out(what, 0, 1)) {
            return LONG_BAD;
        }
        return can(plan) == 1 ? shareOf(plan, name).told(what) : LONG_NOT;
    }

    long both(int plan, int a, int b, int what) {
        int last = names.size() - 1;
        if (out(plan, 0, 3) || out(a, 0, last) || out(b, 0, last) || a == b || out(what, 0, 1)) {
            return LONG_BAD;
        }
        return can(plan) == 1 ? shareOfSet(plan, 1 << a | 1 << b).told(what) : LONG_NOT;
    }

    int width(int plan, int what) {
        if (out(plan, 0, 3) || out(what, 0, 1)) {
            return BAD;
        }
        if (can(plan) == 0) {
            return NOT;
        }
        List<Integer> widths = new ArrayList<>();
        for (Way w : ways(plan)) {
            widths.add(Integer.bitCount(w.set));
        }
        return what == 0 ? Collections.min(widths) : Collections.max(widths);
    }

    private int lot(int k) {
        seed = (int) (1103515245L * seed + 12345L);
        return (int) ((seed & 0xFFFFFFFFL) / 65536) % k;
    }

    private List<Integer> taken(List<Integer> row, int n) {
        List<Integer> found = new ArrayList<>();
        for (int i = 0; i < row.size(); i++) {
            if (lot(row.size() - i) < n - found.size()) {
                found.add(row.get(i));
            }
        }
        return found;
    }

    private static int bits(List<Integer> row) {
        int set = 0;
        for (int i : row) {
            set |= 1 << i;
        }
        return set;
    }

    int lots(int plan, int newSeed) {
        if (out(plan, 0, 3)) {
            return BAD;
        }
        if (can(plan) == 0) {
            return NOT;
        }
        seed = newSeed;
        int[] n = numbers(plan);
        int set = 0;
        switch (text(plan).charAt(0)) {
            case 'a':
                return bits(taken(having(-1, 0), n[0]));
            case 'l':
                for (int l = 0; l < 4; l++) {
                    set |= bits(taken(having(0, l), n[l]));
                }
                return set;
            case 'e':
                return each(lot(n[0]), n[0]);
            case 'z':
                int step = allSizes() / n[0];
                return along(lot(step), step, n[0]);
            default:
                for (int c : taken(clusters(), n[0])) {
                    set |= bits(taken(having(1, c), Math.min(n[1], many(1, c))));
                }
                return set;
        }
    }

    private boolean noDraw(int draw) {
        return (Integer.toUnsignedLong(draw) >> names.size()) != 0;
    }

    int makes(int plan, int draw) {
        if (out(plan, 0, 3) || noDraw(draw)) {
            return BAD;
        }
        if (can(plan) == 0) {
            return NOT;
        }
        return ways(plan).stream().anyMatch(w -> w.set == draw) ? 1 : 0;
    }

    /** 0, if the draw can be made. */
    private int refusal(int plan, int draw) {
        int made = makes(plan, draw);
        return made == 1 ? 0 : made == 0 ? BAD : made;
    }

    // sums

    private Ratio sumOf(int plan, int draw) {
        Ratio sum = ZERO;
        for (int i = 0; i < names.size(); i++) {
            if ((draw >> i & 1) == 1 && value(i) != NONE) {
                sum = sum.plus(Ratio.of(value(i), 1).by(shareOf(plan, i)));
            }
        }
        return sum;
    }

    long sum(int plan, int draw, int what) {
        if (out(what, 0, 1)) {
            return LONG_BAD;
        }
        int refusal = refusal(plan, draw);
        return refusal < 0 ? Long.MIN_VALUE - refusal : sumOf(plan, draw).told(what);
    }

    int silent(int draw) {
        if (noDraw(draw)) {
            return BAD;
        }
        int n = 0;
        for (int i = 0; i < names.size(); i++) {
            if ((draw >> i & 1) == 1 && value(i) == NONE) {
                n++;
            }
        }
        return n;
    }

    /** Null, if there is none. */
    private Ratio spreadOf(int plan) {
        if (can(plan) == 0 || "al".indexOf(text(plan).charAt(0)) < 0) {
            return null;
        }
        int[] n = numbers(plan);
        for (int i = 0; i < names.size(); i++) {
            boolean counts = text(plan).charAt(0) == 'a' || n[names.get(i)[0]] > 0;
            if (counts && value(i) == NONE) {
                return null;
            }
        }
        List<Ratio> sums = new ArrayList<>();
        Ratio mean = ZERO;
        for (Way w : ways(plan)) {
            sums.add(sumOf(plan, w.set));
            mean = mean.plus(sums.get(sums.size() - 1));
        }
        mean = mean.by(Ratio.of(sums.size(), 1));
        Ratio spread = ZERO;
        for (Ratio s : sums) {
            spread = spread.plus(s.minus(mean).times(s.minus(mean)));
        }
        return spread.by(Ratio.of(sums.size(), 1));
    }

    long spread(int plan, int what) {
        if (out(plan, 0, 3) || out(what, 0, 1)) {
            return LONG_BAD;
        }
        Ratio spread = spreadOf(plan);
        return spread == null ? LONG_NOT : spread.told(what);
    }

    int wider(int plan, int other) {
        if (out(plan, 0, 3) || out(other, 0, 3)) {
            return BAD;
        }
        Ratio a = spreadOf(plan);
        Ratio b = spreadOf(other);
        return a == null || b == null ? NOT : a.compareTo(b);
    }

    long edge(int plan, int what) {
        if (out(plan, 0, 3) || out(what, 0, 1)) {
            return LONG_BAD;
        }
        if (can(plan) == 0 || "ez".indexOf(text(plan).charAt(0)) < 0) {
            return LONG_NOT;
        }
        Ratio best = null;
        for (Way w : ways(plan)) {
            Ratio sum = sumOf(plan, w.set);
            if (best == null || (what == 0 ? sum.compareTo(best) < 0 : sum.compareTo(best) > 0)) {
                best = sum;
            }
        }
        return best.floor();
    }

    // weights

    int known(int what, int of, int sum) {
        if (out(what, 0, 1) || out(of, 0, what == 0 ? 3 : 2) || out(sum, 0, 30000)) {
            return BAD;
        }
        int was = known[what][of];
        known[what][of] = sum;
        return was;
    }

    private static void part(long[] weights, List<Integer> members, long whole) {
        long together = members.stream().mapToLong(i -> weights[i]).sum();
        if (together == 0) {
            return;
        }
        long[] rests = new long[30];
        long left = whole;
        for (int i : members) {
            rests[i] = whole * weights[i] % together;
            weights[i] = whole * weights[i] / together;
            left -= weights[i];
        }
        List<Integer> order = new ArrayList<>(members);
        order.sort(Comparator.comparingLong(i -> -rests[i]));
        for (int k = 0; k < left; k++) {
            weights[order.get(k)]++;
        }
    }

    private long[] weights(int plan, int draw, int rounds) {
        long[] weights = new long[30];
        List<Integer> having = new ArrayList<>();
        for (int i = 0; i < names.size(); i++) {
            if ((draw >> i & 1) == 1 && value(i) != NONE) {
                having.add(i);
                weights[i] = THOUSAND.by(shareOf(plan, i)).floor();
            }
        }
        for (int round = 0; round < rounds; round++) {
            for (int what = 0; what < 2; what++) {
                for (int of = 0; of < 4 - what; of++) {
                    List<Integer> members = new ArrayList<>(having);
                    members.retainAll(having(3 * what, of));
                    part(weights, members, known[what][of]);
                }
            }
        }
        return weights;
    }

    int weight(int plan, int draw, int rounds, int name) {
        if (out(rounds, 0, 30) || out(name, 0, names.size() - 1)) {
            return BAD;
        }
        int refusal = refusal(plan, draw);
        return refusal < 0 ? refusal : (int) weights(plan, draw, rounds)[name];
    }

    int led(int plan, int draw, int rounds, int what) {
        if (out(rounds, 0, 30) || out(what, 0, 1)) {
            return BAD;
        }
        int refusal = refusal(plan, draw);
        if (refusal < 0) {
            return refusal;
        }
        long[] weights = weights(plan, draw, rounds);
        if (what == 1) {
            long sum = 0;
            for (int i = 0; i < names.size(); i++) {
                sum += weights[i] * Math.max(0, value(i));
            }
            return Math.toIntExact(sum / 1000);
        }
        long miss = 0;
        for (int kind = 0; kind < 2; kind++) {
            for (int of = 0; of < 4 - kind; of++) {
                long sum = having(3 * kind, of).stream().mapToLong(i -> weights[i]).sum();
                miss += Math.abs(sum - known[kind][of]);
            }
        }
        return Math.toIntExact(miss);
    }

    // asked again

    int cost(int cluster, int c) {
        if (out(cluster, 0, 7) || out(c, 0, 100)) {
            return BAD;
        }
        int was = costs[cluster];
        costs[cluster] = c;
        return was;
    }

    int again(int plan, int draw, int price, int what) {
        if (out(price, 0, 800) || out(what, 0, 2)) {
            return BAD;
        }
        int refusal = refusal(plan, draw);
        if (refusal < 0) {
            return refusal;
        }
        long[] gains = new long[8];
        for (int i = 0; i < names.size(); i++) {
            if ((draw >> i & 1) == 1 && value(i) == NONE) {
                gains[names.get(i)[1]] += THOUSAND.by(shareOf(plan, i)).floor();
            }
        }
        List<long[]> sets = new ArrayList<>();
        for (int set = 0; set < 256; set++) {
            long gain = 0;
            long cost = 0;
            boolean fits = true;
            for (int c = 0; c < 8; c++) {
                if ((set >> c & 1) == 1) {
                    fits &= gains[c] > 0;
                    gain += gains[c];
                    cost += costs[c];
                }
            }
            if (fits && cost <= price) {
                sets.add(new long[] {set, gain, cost});
            }
        }
        sets.sort(Comparator.<long[]>comparingLong(s -> -s[1]).thenComparingLong(s -> s[2]).thenComparingLong(s -> s[0]));
        return (int) sets.get(0)[what];
    }

    // sheets: real rows of the Java machine

    private int form(int s) {
        return sheets[s] instanceof byte[] ? 0 : sheets[s] instanceof short[] ? 1 : 2;
    }

    private int length(int s) {
        return java.lang.reflect.Array.getLength(sheets[s]);
    }

    private int item(int s, int i) {
        return java.lang.reflect.Array.getInt(sheets[s], i);
    }

    private void set(int s, int i, int v) {
        if (sheets[s] instanceof byte[] b) {
            b[i] = (byte) v;
        } else if (sheets[s] instanceof short[] h) {
            h[i] = (short) v;
        } else {
            ((int[]) sheets[s])[i] = v;
        }
    }

    int sheet(int s, int form, int n) {
        if (out(s, 0, 3) || out(form, 0, 2) || n > 90) {
            return BAD;
        }
        if (n < 0) {
            return find(5);
        }
        sheets[s] = form == 0 ? new byte[n] : form == 1 ? new short[n] : new int[n];
        return n;
    }

    int lose(int s) {
        if (out(s, 0, 3)) {
            return BAD;
        }
        if (sheets[s] == null) {
            return find(1);
        }
        int n = length(s);
        sheets[s] = null;
        return n;
    }

    private int itemFinding(int s, int form, int i) {
        return sheets[s] == null ? 1 : form(s) != form ? 3 : out(i, 0, length(s) - 1) ? 2 : 0;
    }

    int put(int s, int form, int i, int v) {
        if (out(s, 0, 3) || out(form, 0, 2)) {
            return BAD;
        }
        int found = itemFinding(s, form, i);
        if (found != 0) {
            return find(found);
        }
        set(s, i, v);
        return 1;
    }

    int get(int s, int form, int i) {
        if (out(s, 0, 3) || out(form, 0, 2)) {
            return Integer.MIN_VALUE;
        }
        int found = itemFinding(s, form, i);
        if (found != 0) {
            find(found);
            return Integer.MIN_VALUE;
        }
        return item(s, i);
    }

    int copy(int s, int i, int t, int j, int n) {
        if (out(s, 0, 3) || out(t, 0, 3)) {
            return BAD;
        }
        if (sheets[s] == null || sheets[t] == null) {
            return find(1);
        }
        try {
            System.arraycopy(sheets[s], i, sheets[t], j, n);
            return 1;
        } catch (ArrayStoreException e) {
            return find(4);
        } catch (IndexOutOfBoundsException e) {
            return find(2);
        }
    }

    int write(int s, int draw) {
        if (out(s, 0, 3) || noDraw(draw)) {
            return BAD;
        }
        if (sheets[s] == null) {
            return find(1);
        }
        int n = 0;
        for (int i = 0; i < names.size(); i++) {
            if ((draw >> i & 1) == 1 && n < length(s)) {
                set(s, n, i);
                n++;
            }
        }
        return n;
    }

    int count(int what) {
        switch (what) {
            case 0:
                return names.size();
            case 1:
                int n = 0;
                for (int i = 0; i < names.size(); i++) {
                    n += value(i) == NONE ? 0 : 1;
                }
                return n;
            case 2:
                return answers.size();
            case 3:
                return asOf;
            case 8:
                return finding;
            case 9:
                return clusters().size();
            default:
                return out(what, 4, 7) ? BAD : texts.get(what - 4).size();
        }
    }

    long digest() {
        List<Long> row = new ArrayList<>();
        for (int what : new int[] {0, 1, 2, 3, 4, 5, 6, 7, 9}) {
            row.add((long) count(what));
        }
        for (int i = 0; i < names.size(); i++) {
            for (int what = 0; what < 5; what++) {
                row.add((long) about(i, what));
            }
        }
        for (int plan = 0; plan < 4; plan++) {
            row.add((long) fault(plan));
            row.add((long) can(plan));
            row.add(draws(plan));
            if (can(plan) == 1) {
                row.add((long) lots(plan, 1));
                for (int i = 0; i < names.size(); i++) {
                    row.add(share(plan, i, 0));
                    row.add(share(plan, i, 1));
                }
            }
        }
        long h = 17;
        for (long r : row) {
            h = 31 * h + r;
        }
        return h;
    }
}
