import java.util.ArrayList;
import java.util.Arrays;
import java.util.List;
import java.util.function.IntPredicate;
import java.util.regex.Matcher;
import java.util.regex.Pattern;

/**
 * The document told once more, as literally as can be and with no care for speed or objects, so that
 * ModelTest can hold the class against it. It shares no code and as few ways as possible with the class.
 */
public final class Plain {
    private static final String STATEMENT = "(c[0-9]{4};|n[0-9];|p[0-9][+-][0-9];|s[0-9]{3};|l[0-9];|u;)";
    private static final Pattern CASE = Pattern.compile(STATEMENT + "+", Pattern.DOTALL);
    private static final Pattern ONE = Pattern.compile(STATEMENT);

    /** What part I holds; a court is KIND, FIGURE, COST. */
    private record State(List<int[]> courts, int[] points, int stake, int length) {
        State with(List<int[]> c) {
            return new State(c, points, stake, length);
        }

        State with(int[] p) {
            return new State(courts, p, stake, length);
        }

        State withStake(int v) {
            return new State(courts, points, v, length);
        }

        State withLength(int v) {
            return new State(courts, points, stake, v);
        }
    }

    private State now = new State(List.of(), new int[4], 100, 6);
    private State image = null;
    private final List<State> olds = new ArrayList<>();
    private final StringBuilder letters = new StringBuilder();
    private final List<Integer> row = new ArrayList<>();
    private final int[] refused = new int[7];

    // ---- what the words mean

    private static int sum(int[] p) {
        return Arrays.stream(p).sum();
    }

    private static boolean isFor(int[] p) {
        return sum(p) > 0;
    }

    private static int notZero(int[] p) {
        return (int) Arrays.stream(p).filter(v -> v != 0).count();
    }

    private static int hold(int v) {
        return v > 9 ? 9 : v < -9 ? -9 : v;
    }

    private static int surest(int[] p) {
        int most = Arrays.stream(p).map(Math::abs).max().orElse(0);
        int at = 0;
        while (Math.abs(p[at]) != most) {
            at++;
        }
        return at;
    }

    private static int[] put(int[] p, int at, int v) {
        int[] q = p.clone();
        q[at] = hold(v);
        return q;
    }

    private static int[] asCourt(int[] p) {
        int at = surest(p);
        int half = Math.abs(p[at]) / 2;
        return put(p, at, p[at] < 0 ? -half : half);
    }

    private static int[] asBench(int[] p) {
        int at = surest(p);
        return put(p, at, 0 - p[at]);
    }

    private static int[] asConstable(int[] p) {
        int at = surest(p);
        int[] q = asBench(p);
        if (p.length >= 2) {
            int behind = (at + 1) % p.length;
            q = put(q, behind, q[behind] - 1);
        }
        return q;
    }

    private static int[] asBoy(int[] p, int figure) {
        int at = surest(p);
        return p[at] == 0 ? p : put(p, at, p[at] < 0 ? figure : 0 - figure);
    }

    private static int[] asAssize(int[] p) {
        int at = surest(p);
        int[] q = asCourt(p);
        for (int i = 0; i < p.length; i++) {
            if (i != at) {
                q[i] = p[i] > 0 ? p[i] - 1 : p[i] < 0 ? p[i] + 1 : 0;
            }
        }
        return q;
    }

    /** What a court does if none sends it back. */
    private static int[] act(int kind, int figure, int[] p) {
        return switch (kind) {
            case 0 -> asCourt(p);
            case 1 -> asBench(p);
            case 2 -> asConstable(p);
            case 3 -> asBoy(p, figure);
            case 4 -> asAssize(p);
            case 5 -> asCourt(asConstable(p));
            default -> throw new IllegalStateException();
        };
    }

    private static boolean sends(int[] court, int[] p, int length) {
        return court[0] == 3 && notZero(p) > length;
    }

    private static int[] hear(State s, int[] court, int[] p) {
        return sends(court, p, s.length) ? p.clone() : act(court[0], court[1], p);
    }

    private static int[] go(State s, int k) {
        int[] p = s.points.clone();
        for (int i = 0; i < k; i++) {
            p = hear(s, s.courts.get(i), p);
        }
        return p;
    }

    private static int[] end(State s) {
        return go(s, s.courts.size());
    }

    private static boolean won(State s) {
        return isFor(end(s));
    }

    private int n() {
        return now.courts.size();
    }

    private int m() {
        return now.points.length;
    }

    private static State withCourt(State s, int k, int kind, int figure) {
        List<int[]> c = new ArrayList<>(s.courts);
        c.set(k, new int[] {kind, figure, s.courts.get(k)[2]});
        return s.with(c);
    }

    private static State awake(State s, int asleep) {
        List<int[]> c = new ArrayList<>();
        for (int k = 0; k < s.courts.size(); k++) {
            if ((asleep & (1 << k)) == 0) {
                c.add(s.courts.get(k));
            }
        }
        return s.with(c);
    }

    private static int[] sized(int[] p, int many) {
        return Arrays.copyOf(p, many);
    }

    // ---- refusing

    private int no(int code) {
        refused[-code]++;
        return code;
    }

    private int noHigh(int code) {
        return 1000000000 - no(code);
    }

    private boolean isCourt(int k) {
        return k >= 0 && k < n();
    }

    private boolean isPoint(int i) {
        return i >= 0 && i < m();
    }

    // ---- the face

    public int feed(int letter) {
        if (letter < 0) {
            return no(-4);
        }
        if (letter > 255 || letters.length() == 96) {
            return no(-6);
        }
        letters.append((char) letter);
        return letters.length();
    }

    public int caseOf() {
        String text = letters.toString();
        letters.setLength(0);
        for (int i = 1; i <= text.length(); i++) {
            Matcher m = CASE.matcher(text.substring(0, i));
            if (!m.matches() && !m.hitEnd()) {
                return -1000 - (i - 1);
            }
        }
        if (!CASE.matcher(text).matches()) {
            return -1000 - text.length();
        }
        State s = now;
        int many = 0;
        Matcher each = ONE.matcher(text);
        while (each.find()) {
            s = told(s, each.group());
            if (s == null) {
                return -2000 - each.start();
            }
            many++;
        }
        now = s;
        olds.clear();
        return many;
    }

    private static State told(State s, String t) {
        int d = t.length() > 2 ? t.charAt(1) - '0' : 0;
        switch (t.charAt(0)) {
            case 'c': {
                if (d > 5 || s.courts.size() == 7) {
                    return null;
                }
                List<int[]> c = new ArrayList<>(s.courts);
                c.add(new int[] {d, t.charAt(2) - '0', Integer.parseInt(t.substring(3, 5))});
                return s.with(c);
            }
            case 'n':
                return d < 1 || d > 8 ? null : s.with(sized(s.points, d));
            case 'p':
                return d >= s.points.length ? null : s.with(put(s.points, d, Integer.parseInt(t.substring(2, 4))));
            case 's':
                return s.withStake(Integer.parseInt(t.substring(1, 4)));
            case 'l':
                return d > 8 ? null : s.withLength(d);
            default:
                return s.courts.isEmpty() ? null : s.with(s.courts.subList(0, s.courts.size() - 1));
        }
    }

    public int court(int court, int what) {
        if (!isCourt(court)) {
            return no(-1);
        }
        return what < 0 || what > 2 ? no(-2) : now.courts.get(court)[what];
    }

    private void change(State s) {
        olds.add(now);
        if (olds.size() > 8) {
            olds.remove(0);
        }
        now = s;
    }

    public int point(int point, int v) {
        if (!isPoint(point)) {
            return noHigh(-1);
        }
        if (v < -9) {
            return noHigh(-4);
        }
        if (v > 9) {
            return noHigh(-6);
        }
        int was = now.points[point];
        change(now.with(put(now.points, point, v)));
        return was;
    }

    public int kind(int court, int kind, int figure) {
        if (!isCourt(court)) {
            return no(-1);
        }
        if (kind < 0 || kind > 5) {
            return no(-2);
        }
        if (figure < 0) {
            return no(-4);
        }
        if (figure > 9) {
            return no(-6);
        }
        int[] c = now.courts.get(court);
        change(withCourt(now, court, kind, figure));
        return 10 * c[0] + c[1];
    }

    public int lowest(int kind, int figure, int cost) {
        if (kind < 0 || kind > 5) {
            return no(-2);
        }
        if (figure < 0 || cost < 0) {
            return no(-4);
        }
        if (figure > 9 || cost > 99 || n() == 7) {
            return no(-6);
        }
        List<int[]> c = new ArrayList<>(now.courts);
        c.add(new int[] {kind, figure, cost});
        change(now.with(c));
        return n();
    }

    public int set(int what, int v) {
        if (what < 0 || what > 2) {
            return no(-2);
        }
        if (v < (what == 0 ? 1 : 0)) {
            return no(-4);
        }
        if (v > (what == 1 ? 999 : 8)) {
            return no(-6);
        }
        int was = what == 0 ? m() : what == 1 ? now.stake : now.length;
        now = what == 0 ? now.with(sized(now.points, v)) : what == 1 ? now.withStake(v) : now.withLength(v);
        olds.clear();
        return was;
    }

    public int back() {
        if (olds.isEmpty()) {
            return no(-3);
        }
        now = olds.remove(olds.size() - 1);
        return olds.size();
    }

    public int down(int k, int what) {
        if (k < 0) {
            return noHigh(-4);
        }
        if (k > n()) {
            return noHigh(-6);
        }
        int[] p = go(now, k);
        if (what == 9) {
            return isFor(p) ? 1 : 0;
        }
        if (what == 8) {
            return sum(p);
        }
        return isPoint(what) ? p[what] : noHigh(-2);
    }

    public int turns(int what) {
        List<Integer> at = new ArrayList<>();
        for (int k = 0; k < n(); k++) {
            if (isFor(go(now, k)) != isFor(go(now, k + 1))) {
                at.add(k);
            }
        }
        return what == 0 ? at.isEmpty() ? -9 : at.get(0) : what == 1 ? at.size() : no(-2);
    }

    public int costs(int k) {
        if (k < 0) {
            return no(-4);
        }
        return k > n() ? no(-6) : now.courts.subList(0, k).stream().mapToInt(c -> c[2]).sum();
    }

    public int up() {
        for (int k = 0; k < n(); k++) {
            if (sends(now.courts.get(k), go(now, k), now.length)) {
                return k;
            }
        }
        return -9;
    }

    /** How many courts it goes through, SUM, WHEN: far beyond 200, and cut at 200 only then. */
    private static int[] rounded(State s) {
        int[] p = s.points.clone();
        int at = 0;
        int gone = 0;
        int when = -9;
        List<int[]> were = new ArrayList<>();
        List<Integer> whens = new ArrayList<>();
        were.add(p);
        whens.add(0);
        while (at < s.courts.size() && gone < 1000) {
            int[] court = s.courts.get(at);
            gone++;
            if (!sends(court, p, s.length)) {
                p = act(court[0], court[1], p);
                at++;
                continue;
            }
            at = 0;
            for (int i = were.size() - 1; i >= 0 && when == -9; i--) {
                if (Arrays.equals(were.get(i), p) && gone <= 200) {
                    when = gone - whens.get(i);
                }
            }
            were.add(p);
            whens.add(gone);
        }
        boolean ends = at == s.courts.size() && gone <= 200;
        return new int[] {ends ? gone : -9, ends ? sum(p) : -99, ends ? -9 : when};
    }

    public int round(int what) {
        return what < 0 || what > 2 ? noHigh(-2) : rounded(now)[what];
    }

    /** APPEALS from behind court k: the last court, FOR in the end (1, 0), what for, what against pays. */
    private static int[] from(State s, int k) {
        boolean stands = isFor(go(s, k + 1));
        int[] stop = {k, stands ? 1 : 0, 0, 0};
        if (k == s.courts.size() - 1) {
            return stop;
        }
        int[] on = from(s, k + 1).clone();
        int loser = stands ? 1 : 0;
        on[2 + loser] += s.courts.get(k + 1)[2];
        boolean wins = on[1] == (loser == 0 ? 1 : 0);
        return wins && s.stake > on[2 + loser] ? on : stop;
    }

    public int appeals(int what) {
        if (what < 0 || what > 3) {
            return no(-2);
        }
        if (n() == 0) {
            return what == 1 && isFor(now.points) ? 1 : 0;
        }
        int[] all = from(now, 0);
        return what == 0 ? all[0] + 1 : all[what];
    }

    private static int fewest(int to, IntPredicate good) {
        for (int many = 0; many <= 8; many++) {
            for (int bits = 0; bits < to; bits++) {
                if (Integer.bitCount(bits) == many && good.test(bits)) {
                    return bits;
                }
            }
        }
        return -9;
    }

    public int press(int what) {
        int bits = fewest(1 << m(), b -> {
            int[] p = now.points.clone();
            for (int i = 0; i < p.length; i++) {
                p[i] = hold(p[i] + (b >> i) % 2);
            }
            return won(now.with(p));
        });
        return what == 0 ? bits : what != 1 ? no(-2) : bits == -9 ? -9 : Integer.bitCount(bits);
    }

    private static int[] play(State s, int moves) {
        if (moves == 0) {
            return new int[] {sum(end(s)), -9};
        }
        int side = moves % 2 == 0 ? 1 : -1;
        int[] best = null;
        for (int i = 0; i < s.points.length; i++) {
            for (int step = -1; step <= 1; step += 2) {
                int got = play(s.with(put(s.points, i, s.points[i] + step)), moves - 1)[0];
                if (best == null || got * side > best[0] * side) {
                    best = new int[] {got, i};
                }
            }
        }
        return best;
    }

    public int turnsBy(int m, int what) {
        if (m < 0) {
            return noHigh(-4);
        }
        if (m > 2) {
            return noHigh(-6);
        }
        return what < 0 || what > 1 ? noHigh(-2) : play(now, 2 * m)[what];
    }

    private static int fast(State s) {
        int k = 0;
        while (k < s.courts.size() && isFor(go(s, k + 1)) == isFor(s.points)) {
            k++;
        }
        return k;
    }

    public int standsFast() {
        return fast(now);
    }

    private static List<int[]> threes(int f) {
        List<int[]> all = new ArrayList<>();
        for (int a = -f; a <= f; a++) {
            for (int b = -f; b <= f; b++) {
                for (int c = -f; c <= f; c++) {
                    all.add(new int[] {a, b, c});
                }
            }
        }
        return all;
    }

    public int survive(int f) {
        if (f < 0) {
            return no(-4);
        }
        if (f > 4) {
            return no(-6);
        }
        return (int) threes(f).stream().filter(p -> fast(now.with(p)) == n()).count();
    }

    public int fits(int f) {
        if (f < 0) {
            return no(-4);
        }
        if (f > 9) {
            return no(-6);
        }
        if (row.size() != 2 * m() || row.stream().anyMatch(v -> v > 18)) {
            return no(-3);
        }
        int[] was = new int[m()];
        int[] became = new int[m()];
        for (int i = 0; i < m(); i++) {
            was[i] = row.get(2 * i) - 9;
            became[i] = row.get(2 * i + 1) - 9;
        }
        int bits = 0;
        for (int kind = 0; kind < 6; kind++) {
            if (Arrays.equals(act(kind, f, was), became)) {
                bits += 1 << kind;
            }
        }
        return bits;
    }

    public int first(int i) {
        if (i < -1) {
            return noHigh(-4);
        }
        if (m() != 3) {
            return noHigh(-3);
        }
        List<int[]> all = new ArrayList<>(threes(4));
        all.removeIf(p -> !Arrays.equals(end(now.with(p)), now.points));
        if (i == -1) {
            return all.size();
        }
        all.sort((p, q) -> sum(p) - sum(q));
        return all.isEmpty() || i > 2 ? -9 : all.get(0)[i];
    }

    public int apart(int one, int other, int f) {
        if (one < 0 || one > 5 || other < 0 || other > 5) {
            return no(-2);
        }
        if (f < 0) {
            return no(-4);
        }
        if (f > 9) {
            return no(-6);
        }
        for (int[] p : threes(4)) {
            if (!Arrays.equals(act(one, f, p), act(other, f, p))) {
                return 81 * (p[0] + 4) + 9 * (p[1] + 4) + p[2] + 4;
            }
        }
        return -9;
    }

    public int treaty(int k, int what) {
        if (n() == 0) {
            return no(-3);
        }
        if (k < 0) {
            return no(-4);
        }
        if (k > n() - 1) {
            return no(-6);
        }
        if (what < 0 || what > 1) {
            return no(-2);
        }
        int[] f = from(now, k);
        return what == 0 ? f[2] + f[3] : f[0] > k ? 1 : 0;
    }

    public int share(int court) {
        if (!isCourt(court)) {
            return no(-1);
        }
        if (court == 0 || from(now, 0)[0] < court) {
            return -9;
        }
        return isFor(go(now, court)) ? 1 : 0;
    }

    public long bedtime(int t, int part) {
        if (t < 2) {
            return 4000000000000000000L - no(-4);
        }
        if (t > 20) {
            return 4000000000000000000L - no(-6);
        }
        if (part < 0 || part > 1) {
            return 4000000000000000000L - no(-2);
        }
        long[] f = likely(now, now.points, 0, t);
        java.math.BigInteger g = java.math.BigInteger.valueOf(f[0]).gcd(java.math.BigInteger.valueOf(f[1]));
        return f[part] / g.longValue();
    }

    private static long[] likely(State s, int[] p, int k, int t) {
        if (k == s.courts.size()) {
            return new long[] {isFor(p) ? 1 : 0, 1};
        }
        long[] sleeps = likely(s, p, k + 1, t);
        long[] wakes = likely(s, hear(s, s.courts.get(k), p), k + 1, t);
        return new long[] {sleeps[0] + (t - 1) * wakes[0], sleeps[1] * t};
    }

    public int order() {
        int best = sum(end(now));
        int answer = -9;
        for (int code = 0; code < 100; code++) {
            int i = code / 10;
            int j = code % 10;
            if (i < j && j < n()) {
                List<int[]> c = new ArrayList<>(now.courts);
                java.util.Collections.swap(c, i, j);
                if (sum(end(now.with(c))) > best) {
                    best = sum(end(now.with(c)));
                    answer = code;
                }
            }
        }
        return answer;
    }

    private void orders(List<Integer> so, List<List<Integer>> all) {
        if (so.size() == n()) {
            all.add(new ArrayList<>(so));
        }
        for (int k = 0; k < n(); k++) {
            if (!so.contains(k)) {
                so.add(k);
                orders(so, all);
                so.remove(so.size() - 1);
            }
        }
    }

    public int bestOrder(int i) {
        if (n() > 5) {
            return noHigh(-3);
        }
        if (i < -1) {
            return noHigh(-4);
        }
        List<List<Integer>> all = new ArrayList<>();
        orders(new ArrayList<>(), all);
        List<Integer> best = null;
        int most = 0;
        for (List<Integer> so : all) {
            int got = sum(end(now.with(so.stream().map(now.courts::get).toList())));
            if (best == null || got > most) {
                best = so;
                most = got;
            }
        }
        return i == -1 ? most : i < n() ? best.get(i) : -9;
    }

    public int needed(int point) {
        if (!isPoint(point)) {
            return no(-1);
        }
        for (int v = -9; v <= 9; v++) {
            if (won(now.with(put(now.points, point, v)))) {
                return v;
            }
        }
        return -99;
    }

    public int cheapest() {
        int best = -9;
        for (int k = n() - 1; k >= 0; k--) {
            if (won(awake(now, 1 << k)) == won(now) && (best == -9 || now.courts.get(k)[2] >= now.courts.get(best)[2])) {
                best = k;
            }
        }
        return best;
    }

    public int biggest(int what) {
        if (what < 0 || what > 1) {
            return noHigh(-2);
        }
        int best = -9;
        int by = 0;
        for (int k = 0; k < n(); k++) {
            int step = sum(go(now, k + 1)) - sum(go(now, k));
            if (step * step > by * by) {
                best = k;
                by = step;
            }
        }
        return what == 0 ? best : by;
    }

    public int swing() {
        int bits = 0;
        for (int i = 0; i < m(); i++) {
            if (won(now.with(put(now.points, i, -now.points[i]))) != won(now)) {
                bits += 1 << i;
            }
        }
        return bits;
    }

    public int rounds() {
        int bits = 0;
        for (int length = 0; length <= 8; length++) {
            bits += rounded(now.withLength(length))[0] == -9 ? 0 : 1 << length;
        }
        return bits;
    }

    public int worst(int court, int what) {
        if (!isCourt(court)) {
            return no(-1);
        }
        if (what < 0 || what > 1) {
            return no(-2);
        }
        int[] sums = new int[6];
        for (int kind = 0; kind < 6; kind++) {
            sums[kind] = sum(end(withCourt(now, court, kind, now.courts.get(court)[1])));
        }
        int least = Arrays.stream(sums).min().orElse(0);
        int at = 0;
        while (sums[at] != least) {
            at++;
        }
        return what == 0 ? at : least + 100;
    }

    public int same() {
        int many = 0;
        for (int j = 0; j < n(); j++) {
            for (int i = 0; i < j; i++) {
                int[] one = hear(now, now.courts.get(i), now.points);
                many += Arrays.equals(one, hear(now, now.courts.get(j), now.points)) ? 1 : 0;
            }
        }
        return many;
    }

    private boolean changes(int k) {
        return !Arrays.equals(go(now, k), go(now, k + 1));
    }

    public int dead() {
        int k = n();
        while (k > 0 && !changes(k - 1)) {
            k--;
        }
        return k == n() ? -9 : k;
    }

    public int flip(int what) {
        if (what < 0 || what > 1) {
            return no(-2);
        }
        int bits = fewest(1 << n(), b -> won(awake(now, b)) != won(now));
        return what == 1 || bits == -9 ? bits : Integer.bitCount(bits);
    }

    private static boolean within(State s, int steps, boolean is) {
        if (won(s) != is) {
            return true;
        }
        for (int i = 0; i < s.points.length && steps > 0; i++) {
            if (within(s.with(put(s.points, i, s.points[i] + 1)), steps - 1, is)
                    || within(s.with(put(s.points, i, s.points[i] - 1)), steps - 1, is)) {
                return true;
            }
        }
        return false;
    }

    public int margin() {
        for (int steps = 0; steps <= 3; steps++) {
            if (within(now, steps, won(now))) {
                return steps;
            }
        }
        return -9;
    }

    public int beats() {
        if (row.size() != m() || row.stream().anyMatch(v -> v > 18)) {
            return no(-3);
        }
        int[] p = row.stream().mapToInt(v -> v - 9).toArray();
        return sum(end(now.with(p))) > sum(end(now)) ? 1 : 0;
    }

    public int commute(int one, int other) {
        if (!isCourt(one) || !isCourt(other) || one == other) {
            return no(-1);
        }
        List<int[]> pair = List.of(now.courts.get(one), now.courts.get(other));
        List<int[]> turned = List.of(now.courts.get(other), now.courts.get(one));
        return Arrays.equals(end(now.with(pair)), end(now.with(turned))) ? 1 : 0;
    }

    public int again(int court, int what) {
        if (!isCourt(court)) {
            return no(-1);
        }
        if (what < 0 || what > 1) {
            return no(-2);
        }
        List<String> were = new ArrayList<>();
        int[] p = now.points;
        while (!were.contains(Arrays.toString(p))) {
            were.add(Arrays.toString(p));
            p = hear(now, now.courts.get(court), p);
        }
        int times = were.size();
        return times > 60 ? -9 : what == 0 ? times : times - were.indexOf(Arrays.toString(p));
    }

    public int bestLowest(int f) {
        if (f < 0) {
            return no(-4);
        }
        if (f > 9) {
            return no(-6);
        }
        int best = 0;
        int[] sums = new int[6];
        for (int kind = 0; kind < 6; kind++) {
            List<int[]> c = new ArrayList<>(now.courts);
            c.add(new int[] {kind, f, 0});
            sums[kind] = sum(end(now.with(c)));
            best = sums[kind] > sums[best] ? kind : best;
        }
        return best;
    }

    public int peak(int what) {
        if (what < 0 || what > 1) {
            return no(-2);
        }
        int best = n();
        for (int k = n(); k >= 0; k--) {
            best = sum(go(now, k)) >= sum(go(now, best)) ? k : best;
        }
        return what == 0 ? best : sum(go(now, best)) + 100;
    }

    public int fullStake() {
        if (n() == 0) {
            return no(-3);
        }
        for (int stake = 0; stake <= 999; stake++) {
            if (from(now.withStake(stake), 0)[0] == n() - 1) {
                return stake;
            }
        }
        return -9;
    }

    public int heard() {
        int many = 0;
        for (int k = 0; k < n(); k++) {
            many += changes(k) ? 1 : 0;
        }
        return many;
    }

    public int lastSay() {
        if (n() == 0) {
            return no(-3);
        }
        int bits = 0;
        for (int kind = 0; kind < 6; kind++) {
            bits += won(withCourt(now, n() - 1, kind, now.courts.get(n() - 1)[1])) ? 1 << kind : 0;
        }
        return bits;
    }

    public int row(int v) {
        if (v < 0) {
            return no(-4);
        }
        if (v > 99 || row.size() == 16) {
            return no(-6);
        }
        row.add(v);
        return row.size();
    }

    public int judge() {
        int answer = -9;
        for (int i = row.size() - 1; i >= 0; i--) {
            if (i > n() || row.get(i) != sum(go(now, i)) + 50) {
                answer = i;
            }
        }
        row.clear();
        return answer;
    }

    public int clear() {
        int had = row.size();
        row.clear();
        return had;
    }

    public int lots(int n, int z, int what) {
        if (n < 1) {
            return no(-4);
        }
        if (n > 20) {
            return no(-6);
        }
        if (what < 0 || what > 1) {
            return no(-2);
        }
        int[] many = new int[2];
        for (int i = 0; i < n; i++) {
            int[] p = new int[m()];
            for (int j = 0; j < m(); j++) {
                z = (int) (z * 1103515245L + 12345L);
                p[j] = ((z << 1 >>> 1) >> 16) % 19 - 9;
            }
            boolean was = isFor(p);
            boolean is = won(now.with(p));
            many[0] += is ? 1 : 0;
            many[1] += is == was ? 0 : 1;
        }
        return many[what];
    }

    public int image() {
        image = now;
        return n();
    }

    public int restore() {
        if (image == null) {
            return no(-3);
        }
        now = image;
        olds.clear();
        return n();
    }

    public int count(int what) {
        int[] some = {n(), m(), now.stake, now.length, letters.length(), row.size(), olds.size(), notZero(now.points)};
        if (what >= 0 && what < 8) {
            return some[what];
        }
        return what > 10 && what < 17 ? refused[what - 10] : -9;
    }
}
