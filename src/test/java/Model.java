import java.math.BigInteger;
import java.util.ArrayDeque;
import java.util.ArrayList;
import java.util.Deque;
import java.util.HashMap;
import java.util.HashSet;
import java.util.List;
import java.util.Map;
import java.util.Set;
import java.util.TreeSet;
import java.util.regex.Matcher;
import java.util.regex.Pattern;

/**
 * The document once more, by other means than the class uses: ways are listed
 * one by one, adjusted coordinates are the mean over all spanning trees, shares
 * go through every order, and the error of a text comes from a regular
 * expression. Slow, and free to throw.
 */
final class Model {
    static final int UNKNOWN = -1, OUTSIDE = -2, STATE = -3, FULL = -4, NONE = -9;

    /** from, to, length, bearing, slope, width, collapsed. */
    record Leg(int from, int to, int[] measured, boolean fallen) {
        Leg with(int what, int v) {
            int[] other = measured.clone();
            other[what] = v;
            return new Leg(from, to, other, fallen);
        }

        Leg turned() {
            return new Leg(from, to, measured, !fallen);
        }

        int width() {
            return measured[3];
        }

        int far(int station) {
            return station == from ? to : from;
        }

        boolean at(int station) {
            return station == from || station == to;
        }

        int vector(int what) {
            int length = measured[0];
            int steep = Math.abs(measured[2] - 2);
            int side = Integer.signum(measured[2] - 2);
            if (what == 2) {
                return side * (steep == 0 ? 0 : steep == 1 ? length / 2 : length * 87 / 100);
            }
            int flat = length * (steep == 0 ? 100 : steep == 1 ? 87 : 50) / 100;
            int twelfths = (measured[1] + 3 * what) % 12;
            int quarter = twelfths % 6 > 3 ? 6 - twelfths % 6 : twelfths % 6;
            int size = flat * (quarter == 0 ? 0 : quarter == 1 ? 50 : quarter == 2 ? 87 : 100) / 100;
            return twelfths < 6 ? size : -size;
        }
    }

    record Ratio(BigInteger top, BigInteger bottom) implements Comparable<Ratio> {
        static final Ratio ZERO = of(0, 1);

        static Ratio of(long top, long bottom) {
            return of(BigInteger.valueOf(top), BigInteger.valueOf(bottom));
        }

        static Ratio of(BigInteger top, BigInteger bottom) {
            BigInteger common = top.gcd(bottom).multiply(BigInteger.valueOf(bottom.signum()));
            return new Ratio(top.divide(common), bottom.divide(common));
        }

        Ratio plus(Ratio o) {
            return of(top.multiply(o.bottom).add(o.top.multiply(bottom)), bottom.multiply(o.bottom));
        }

        Ratio times(Ratio o) {
            return of(top.multiply(o.top), bottom.multiply(o.bottom));
        }

        Ratio minus(Ratio o) {
            return plus(o.times(of(-1, 1)));
        }

        @Override
        public int compareTo(Ratio o) {
            return top.multiply(o.bottom).compareTo(o.top.multiply(bottom));
        }

        long side(boolean upper) {
            return (upper ? top : bottom).longValueExact();
        }
    }

    private final StringBuilder text = new StringBuilder();
    private int stations = 1;
    private List<Leg> legs = new ArrayList<>();
    private final Deque<List<Leg>> past = new ArrayDeque<>();
    private final List<int[]> seen = new ArrayList<>();
    private final Map<Integer, List<Leg>> slots = new HashMap<>();
    private long seed = 0;

    // ---- the cave

    int write(int letter) {
        if (letter < 0 || letter > 255) {
            return OUTSIDE;
        }
        if (text.length() == 70) {
            return FULL;
        }
        text.append((char) letter);
        return text.length();
    }

    int wipe() {
        int had = text.length();
        text.setLength(0);
        return had;
    }

    private static Pattern grammar() {
        StringBuilder all = new StringBuilder("C1");
        for (int n = 2; n <= 6; n++) {
            StringBuilder pairs = new StringBuilder();
            for (int a = 0; a < n; a++) {
                for (int b = 0; b < n; b++) {
                    if (a != b) {
                        pairs.append(pairs.length() == 0 ? "" : "|").append(a).append(b);
                    }
                }
            }
            all.append("|C").append(n).append("(?:l(?:").append(pairs)
                .append(")(?:0[1-9]|[1-9][0-9])[0-9ab][0-4][1-9]){0,8}");
        }
        return Pattern.compile(all.toString());
    }

    private static final Pattern GRAMMAR = grammar();

    int fault() {
        for (int end = 1; end <= text.length(); end++) {
            Matcher m = GRAMMAR.matcher(text.substring(0, end));
            if (!m.matches() && !m.hitEnd()) {
                return end - 1;
            }
        }
        return GRAMMAR.matcher(text).matches() ? NONE : text.length();
    }

    int cave() {
        if (fault() != NONE) {
            return STATE;
        }
        stations = text.charAt(1) - '0';
        legs = new ArrayList<>();
        for (String part : text.substring(2).split("l")) {
            if (!part.isEmpty()) {
                int[] measured = {Integer.parseInt(part.substring(2, 4)), Character.digit(part.charAt(4), 16),
                    part.charAt(5) - '0', part.charAt(6) - '0'};
                legs.add(new Leg(part.charAt(0) - '0', part.charAt(1) - '0', measured, false));
            }
        }
        past.clear();
        slots.clear();
        return legs.size();
    }

    private boolean isLeg(int leg) {
        return leg >= 0 && leg < legs.size();
    }

    private boolean isStation(int station) {
        return station >= 0 && station < stations;
    }

    int leg(int leg, int what) {
        if (!isLeg(leg)) {
            return UNKNOWN;
        }
        Leg l = legs.get(leg);
        return switch (what) {
            case 0, 1, 2, 3 -> l.measured[what];
            case 4 -> l.from;
            case 5 -> l.to;
            case 6 -> l.fallen ? 1 : 0;
            case 7, 8, 9 -> l.vector(what - 7) + 100;
            default -> OUTSIDE;
        };
    }

    // ---- acts

    private void change() {
        past.addLast(new ArrayList<>(legs));
        if (past.size() > 14) {
            past.removeFirst();
        }
    }

    private static final int[] LEAST = {1, 0, 0, 1};
    private static final int[] MOST = {99, 11, 4, 9};

    private static boolean inRange(int what, int v) {
        return what >= 0 && what < 4 && LEAST[what] <= v && v <= MOST[what];
    }

    int measure(int from, int to, int... measured) {
        if (!isStation(from) || !isStation(to)) {
            return UNKNOWN;
        }
        if (from == to) {
            return STATE;
        }
        for (int what = 0; what < 4; what++) {
            if (!inRange(what, measured[what])) {
                return OUTSIDE;
            }
        }
        if (legs.size() == 8) {
            return FULL;
        }
        change();
        legs.add(new Leg(from, to, measured.clone(), false));
        return legs.size();
    }

    int take(int leg) {
        if (!isLeg(leg)) {
            return UNKNOWN;
        }
        change();
        legs.remove(leg);
        return legs.size();
    }

    int read(int leg, int what, int v) {
        if (!isLeg(leg)) {
            return UNKNOWN;
        }
        if (!inRange(what, v)) {
            return OUTSIDE;
        }
        change();
        return legs.set(leg, legs.get(leg).with(what, v)).measured[what];
    }

    int fall(int leg) {
        if (!isLeg(leg)) {
            return UNKNOWN;
        }
        change();
        legs.set(leg, legs.get(leg).turned());
        return legs.get(leg).fallen ? 1 : 0;
    }

    int undo() {
        if (past.isEmpty()) {
            return STATE;
        }
        legs = past.removeLast();
        return past.size();
    }

    // ---- coordinates

    private static Set<Integer> reach(List<Leg> some) {
        Set<Integer> found = new TreeSet<>(Set.of(0));
        Deque<Integer> open = new ArrayDeque<>(found);
        while (!open.isEmpty()) {
            int station = open.removeFirst();
            for (Leg l : some) {
                if (l.at(station) && found.add(l.far(station))) {
                    open.add(l.far(station));
                }
            }
        }
        return found;
    }

    private static int mask(Iterable<Integer> numbers) {
        int set = 0;
        for (int k : numbers) {
            set |= 1 << k;
        }
        return set;
    }

    private static List<Leg> connectedOf(List<Leg> some) {
        Set<Integer> at = reach(some);
        return some.stream().filter(l -> at.contains(l.from) && at.contains(l.to)).toList();
    }

    private static Map<Integer, int[]> plot(List<Leg> some) {
        Map<Integer, int[]> places = new HashMap<>();
        places.put(0, new int[3]);
        boolean more = true;
        while (more) {
            more = false;
            for (Leg l : some) {
                if (places.containsKey(l.from) != places.containsKey(l.to)) {
                    int sign = places.containsKey(l.from) ? 1 : -1;
                    int[] known = places.get(sign == 1 ? l.from : l.to);
                    int[] place = new int[3];
                    for (int c = 0; c < 3; c++) {
                        place[c] = known[c] + sign * l.vector(c);
                    }
                    places.put(sign == 1 ? l.to : l.from, place);
                    more = true;
                    break;
                }
            }
        }
        return places;
    }

    private int error(boolean known, int what, boolean connected) {
        if (!known) {
            return UNKNOWN;
        }
        if (what < 0 || what > 2) {
            return OUTSIDE;
        }
        return connected ? 0 : STATE;
    }

    private int stationError(int station, int what) {
        return error(isStation(station), what, reach(legs).contains(station));
    }

    private int legError(int leg, int what) {
        return error(isLeg(leg), what, isLeg(leg) && reach(legs).contains(legs.get(leg).from));
    }

    int laid(int station, int what) {
        int error = stationError(station, what);
        return error != 0 ? error : plot(legs).get(station)[what] + 1000;
    }

    private static int misclosure(List<Leg> some, Leg l, int what) {
        Map<Integer, int[]> places = plot(some);
        return l.vector(what) - places.get(l.to)[what] + places.get(l.from)[what];
    }

    int miss(int leg, int what) {
        int error = legError(leg, what);
        return error != 0 ? error : misclosure(legs, legs.get(leg), what) + 1000;
    }

    /** The mean over all spanning trees of what each of them plots. */
    private static Map<Integer, Ratio[]> adjusted(List<Leg> some) {
        List<Leg> net = connectedOf(some);
        Set<Integer> at = reach(some);
        Map<Integer, long[]> sums = new HashMap<>();
        at.forEach(s -> sums.put(s, new long[3]));
        int trees = 0;
        for (int set = 0; set < 1 << net.size(); set++) {
            List<Leg> tree = pick(net, set);
            if (tree.size() == at.size() - 1 && reach(tree).equals(at)) {
                trees++;
                plot(tree).forEach((s, place) -> {
                    for (int c = 0; c < 3; c++) {
                        sums.get(s)[c] += place[c];
                    }
                });
            }
        }
        Map<Integer, Ratio[]> means = new HashMap<>();
        for (int s : at) {
            Ratio[] mean = new Ratio[3];
            for (int c = 0; c < 3; c++) {
                mean[c] = Ratio.of(sums.get(s)[c], trees);
            }
            means.put(s, mean);
        }
        return means;
    }

    private static List<Leg> pick(List<Leg> some, int set) {
        List<Leg> picked = new ArrayList<>();
        for (int k = 0; k < some.size(); k++) {
            if ((set >> k & 1) == 1) {
                picked.add(some.get(k));
            }
        }
        return picked;
    }

    private static Ratio residual(Map<Integer, Ratio[]> at, Leg l, int what) {
        return Ratio.of(l.vector(what), 1).minus(at.get(l.to)[what].minus(at.get(l.from)[what]));
    }

    private static Ratio squareSum(List<Leg> some) {
        Map<Integer, Ratio[]> at = adjusted(some);
        Ratio sum = Ratio.ZERO;
        for (Leg l : connectedOf(some)) {
            for (int c = 0; c < 3; c++) {
                Ratio r = residual(at, l, c);
                sum = sum.plus(r.times(r));
            }
        }
        return sum;
    }

    long evened(int station, int what, boolean upper) {
        int error = stationError(station, what);
        return error != 0 ? error : adjusted(legs).get(station)[what].side(upper);
    }

    long rest(int leg, int what, boolean upper) {
        int error = legError(leg, what);
        return error != 0 ? error : residual(adjusted(legs), legs.get(leg), what).side(upper);
    }

    long squares(boolean upper) {
        return squareSum(legs).side(upper);
    }

    private static int loops(List<Leg> some) {
        return connectedOf(some).size() - reach(some).size() + 1;
    }

    private static List<Leg> without(List<Leg> some, int leg) {
        List<Leg> others = new ArrayList<>(some);
        others.remove(leg);
        return others;
    }

    int ask(int what) {
        if (what < 0 || what > 3) {
            return OUTSIDE;
        }
        if (what < 2) {
            return what == 0 ? mask(reach(legs)) : loops(legs);
        }
        int best = NONE;
        Ratio bestSum = null;
        int clean = 0;
        for (int leg = 0; leg < legs.size(); leg++) {
            List<Leg> others = without(legs, leg);
            if (reach(others).equals(reach(legs))) {
                Ratio sum = squareSum(others);
                if (bestSum == null || sum.compareTo(bestSum) < 0) {
                    best = leg;
                    bestSum = sum;
                }
                clean |= sum.equals(Ratio.ZERO) ? 1 << leg : 0;
            }
        }
        return what == 2 ? best : clean;
    }

    // ---- passages

    /** The sets of legs of all ways that come to no station twice. */
    private static void ways(List<Leg> some, int at, int to, Set<Integer> been, int used, List<Integer> found) {
        if (at == to) {
            found.add(used);
            return;
        }
        for (int k = 0; k < some.size(); k++) {
            Leg l = some.get(k);
            if (!l.fallen && l.at(at) && !been.contains(l.far(at))) {
                Set<Integer> then = new HashSet<>(been);
                then.add(l.far(at));
                ways(some, l.far(at), to, then, used | 1 << k, found);
            }
        }
    }

    private static List<Integer> ways(List<Leg> some, int from, int to) {
        List<Integer> found = new ArrayList<>();
        ways(some, from, to, Set.of(from), 0, found);
        return found;
    }

    private static int width(List<Leg> some, int from, int to) {
        int best = from == to ? 10 : 0;
        for (int way : ways(some, from, to)) {
            best = Math.max(best, pick(some, way).stream().mapToInt(Leg::width).min().orElse(10));
        }
        return best;
    }

    int widest(int station, int other) {
        return isStation(station) && isStation(other) ? width(legs, station, other) : UNKNOWN;
    }

    int come(int g) {
        if (g < 1 || g > 9) {
            return OUTSIDE;
        }
        int set = 0;
        for (int s = 0; s < stations; s++) {
            set |= width(legs, 0, s) >= g ? 1 << s : 0;
        }
        return set;
    }

    int must(int station) {
        if (!isStation(station)) {
            return UNKNOWN;
        }
        List<Integer> all = ways(legs, 0, station);
        return all.isEmpty() ? 0 : all.stream().reduce(-1, (a, b) -> a & b);
    }

    int judge(int n, long row) {
        if (n < 1 || n > 4 || row < 0 || Long.toString(row).length() > 4 * n) {
            return OUTSIDE;
        }
        String digits = String.format("%0" + 4 * n + "d", row);
        List<Leg> copy = new ArrayList<>(legs);
        for (int i = 0; i < n; i++) {
            int[] d = digits.substring(4 * i, 4 * i + 4).chars().map(c -> c - '0').toArray();
            if (!itemHolds(copy, d[0], d[1], d[2], d[3])) {
                return i;
            }
        }
        return NONE;
    }

    private boolean itemHolds(List<Leg> copy, int h, int a, int b, int v) {
        boolean leg = a < copy.size();
        boolean rest = b == 0 && v == 0;
        switch (h) {
            case 1:
                if (leg && rest) {
                    copy.set(a, copy.get(a).turned());
                }
                return leg && rest;
            case 2:
                if (leg && rest) {
                    copy.remove(a);
                }
                return leg && rest;
            case 3:
                if (leg && !rest) {
                    copy.set(a, copy.get(a).with(0, 10 * b + v));
                }
                return leg && !rest;
            case 4:
                return isStation(a) && isStation(b) && width(copy, a, b) >= v;
            case 5:
                return v == 0 && loops(copy) == 10 * a + b;
            case 6:
                return leg && rest && reach(copy).contains(copy.get(a).from) && misclosure(copy, copy.get(a), 0) == 0
                    && misclosure(copy, copy.get(a), 1) == 0 && misclosure(copy, copy.get(a), 2) == 0;
            case 7:
                return isStation(a) && b > 0 && (v == 0 && width(copy, 0, a) < b || v == 1 && width(copy, 0, a) >= b);
            default:
                return false;
        }
    }

    // ---- seen

    int see(int... observation) {
        if (!isStation(observation[0]) || !isStation(observation[1])) {
            return UNKNOWN;
        }
        if (observation[2] < 0 || observation[2] > 10 || observation[3] < 0 || observation[3] > 1) {
            return OUTSIDE;
        }
        if (seen.size() == 6) {
            return FULL;
        }
        seen.add(observation.clone());
        return seen.size();
    }

    int unsee() {
        int had = seen.size();
        seen.clear();
        return had;
    }

    int which() {
        int set = 0;
        for (int leg = 0; leg < legs.size(); leg++) {
            List<Leg> left = without(legs, leg);
            boolean all = !legs.get(leg).fallen;
            for (int[] o : seen) {
                if (isStation(o[0]) && isStation(o[1])) {
                    all &= (width(left, o[0], o[1]) == o[2]) == (o[3] == 1);
                }
            }
            set |= all ? 1 << leg : 0;
        }
        return set;
    }

    // ---- shares, chances

    int share(int leg, boolean upper) {
        if (!isLeg(leg)) {
            return UNKNOWN;
        }
        if (legs.get(leg).fallen) {
            return STATE;
        }
        List<Integer> open = new ArrayList<>();
        for (int k = 0; k < legs.size(); k++) {
            if (!legs.get(k).fallen) {
                open.add(k);
            }
        }
        int[] counts = new int[1 << legs.size()];
        for (int set = 0; set < counts.length; set++) {
            counts[set] = reach(pick(legs, set)).size();
        }
        long[] tally = new long[2];
        orders(open, 0, leg, counts, tally);
        return (int) Ratio.of(tally[0], tally[1]).side(upper);
    }

    /** Goes through all orders: tally has the sum of the gains and the number of orders. */
    private static void orders(List<Integer> open, int added, int leg, int[] counts, long[] tally) {
        if (Integer.bitCount(added) == open.size()) {
            tally[1]++;
            return;
        }
        for (int k : open) {
            if ((added >> k & 1) == 0) {
                long before = tally[1];
                orders(open, added | 1 << k, leg, counts, tally);
                if (k == leg) {
                    tally[0] += (tally[1] - before) * (counts[added | 1 << k] - counts[added]);
                }
            }
        }
    }

    private Ratio chance(List<Leg> left, int next, int station, int g, Ratio stay, Ratio go) {
        if (next == left.size()) {
            return width(left, 0, station) >= g ? Ratio.of(1, 1) : Ratio.ZERO;
        }
        Ratio staying = chance(left, next + 1, station, g, stay, go);
        if (left.get(next).fallen) {
            return staying;
        }
        List<Leg> fallen = new ArrayList<>(left);
        fallen.set(next, left.get(next).turned());
        return staying.times(stay).plus(chance(fallen, next + 1, station, g, stay, go).times(go));
    }

    int falls(int station, int g, int x, boolean upper) {
        if (!isStation(station)) {
            return UNKNOWN;
        }
        if (g < 1 || g > 9 || x < 0 || x > 10) {
            return OUTSIDE;
        }
        return (int) chance(legs, 0, station, g, Ratio.of(10 - x, 10), Ratio.of(x, 10)).side(upper);
    }

    long seed(long v) {
        long had = seed;
        seed = v;
        return had;
    }

    int drawn(int m) {
        if (m < 1 || m > 40) {
            return OUTSIDE;
        }
        int at = 0;
        int away = 0;
        BigInteger whole = BigInteger.ONE.shiftLeft(64);
        for (int step = 0; step < m; step++) {
            BigInteger next = BigInteger.valueOf(seed).multiply(BigInteger.valueOf(6364136223846793005L))
                .add(BigInteger.valueOf(1442695040888963407L)).mod(whole);
            seed = next.longValue();
            if (!legs.isEmpty()) {
                Leg l = legs.get(next.shiftRight(33).mod(BigInteger.valueOf(legs.size())).intValue());
                at = !l.fallen && l.at(at) ? l.far(at) : at;
            }
            away += at == 0 ? 0 : 1;
        }
        return away;
    }

    // ---- places to keep in

    int keep(int slot) {
        if (slot != 0 && slot != 1) {
            return UNKNOWN;
        }
        slots.put(slot, new ArrayList<>(legs));
        return legs.size();
    }

    int again(int slot) {
        if (slot != 0 && slot != 1) {
            return UNKNOWN;
        }
        if (!slots.containsKey(slot)) {
            return STATE;
        }
        legs = new ArrayList<>(slots.get(slot));
        past.clear();
        return legs.size();
    }

    int count(int what) {
        switch (what) {
            case 0:
                return text.length();
            case 1:
                return stations;
            case 2:
                return legs.size();
            case 3:
                int set = 0;
                for (int k = 0; k < legs.size(); k++) {
                    set |= legs.get(k).fallen ? 1 << k : 0;
                }
                return set;
            case 4:
                return past.size();
            case 5:
                return seen.size();
            default:
                return OUTSIDE;
        }
    }
}
