import java.lang.reflect.Method;
import java.lang.reflect.Modifier;
import java.util.ArrayList;
import java.util.Arrays;
import java.util.Comparator;
import java.util.List;

/** Runs of calls by a fixed seed, at the class and at Plain alike: every answer must be the same. */
public final class ModelTest {
    private static final int RUNS = 2500;
    /** So few, because with its letters a run must stay below the 512 calls an object is used for. */
    private static final int CALLS = 40;

    private final Check check = new Check();
    private final List<Method> methods = new ArrayList<>();
    private final List<Method> plains = new ArrayList<>();
    private long seed = 20261118L;

    private int below(int n) {
        seed = seed * 6364136223846793005L + 1442695040888963407L;
        return (int) ((seed >>> 33) % n);
    }

    private int pick(int... from) {
        return from[below(from.length)];
    }

    private ModelTest() throws ReflectiveOperationException {
        for (Method m : AppealsDown.class.getDeclaredMethods()) {
            if (Modifier.isPublic(m.getModifiers())) {
                methods.add(m);
            }
        }
        methods.sort(Comparator.comparing(Method::getName));
        for (Method m : methods) {
            plains.add(Plain.class.getMethod(m.getName(), m.getParameterTypes()));
        }
    }

    private long[] both(AppealsDown x, Plain y, int which, Object... args) throws ReflectiveOperationException {
        Number got = (Number) methods.get(which).invoke(x, args);
        Number want = (Number) plains.get(which).invoke(y, args);
        return new long[] {got.longValue(), want.longValue()};
    }

    private int number() {
        return below(40) == 0 ? pick(Integer.MIN_VALUE, Integer.MAX_VALUE, -10, 10, 100, 999, 1000, 256)
                : below(4) == 0 ? below(22) - 2 : below(2) == 0 ? below(3) : below(9) - 1;
    }

    private String statement() {
        String digits = "" + below(10) + below(10) + below(10);
        switch (below(9)) {
            case 0:
            case 1:
            case 2:
                return "c" + below(below(9) == 0 ? 10 : 6) + digits + ";";
            case 3:
                return "n" + (below(8) == 0 ? below(10) : 3 + below(4)) + ";";
            case 4:
            case 5:
                return "p" + below(below(9) == 0 ? 9 : 3) + (below(2) == 0 ? "+" : "-") + below(10) + ";";
            case 6:
                return "s" + digits + ";";
            case 7:
                return "l" + below(below(9) == 0 ? 10 : 9) + ";";
            default:
                return "u;";
        }
    }

    private void tell(AppealsDown x, Plain y, int run) {
        StringBuilder text = new StringBuilder();
        int many = below(12);
        for (int i = 0; i < many; i++) {
            text.append(statement());
        }
        if (below(5) == 0 && text.length() > 0) {
            text.setCharAt(below(text.length()), "cnpslu;+-0159 \u00e9".charAt(below(15)));
        }
        if (below(8) == 0 && text.length() > 0) {
            text.setLength(below(text.length()));
        }
        for (int i = 0; i < text.length(); i++) {
            check.due("run " + run + ": feed", x.feed(text.charAt(i)), y.feed(text.charAt(i)));
        }
        check.due("run " + run + ": caseOf of " + text, x.caseOf(), y.caseOf());
    }

    private void fill(AppealsDown x, Plain y, int run) {
        int courts = below(8);
        int points = 1 + below(8);
        // CONSTABLES above a BOY go round long enough to come near the bounds of ROUND and AGAIN.
        int way = below(4);
        check.due("run " + run + ": set", x.set(0, points), y.set(0, points));
        for (int i = 0; i < courts; i++) {
            int kind = way == 0 ? i == courts - 1 ? 3 : 2 : below(3) == 0 ? 3 : below(6);
            int figure = below(10);
            int cost = below(2) == 0 ? below(100) : below(20);
            check.due("run " + run + ": lowest", x.lowest(kind, figure, cost), y.lowest(kind, figure, cost));
        }
        for (int i = 0; i < points; i++) {
            int v = below(3) == 0 ? below(5) - 2 : below(19) - 9;
            check.due("run " + run + ": point", x.point(i, v), y.point(i, v));
        }
        int length = way == 0 ? below(points + 1) : below(9);
        check.due("run " + run + ": set", x.set(2, length), y.set(2, length));
    }

    private void tellRow(AppealsDown x, Plain y, int run) {
        int way = below(3);
        check.due("run " + run + ": clear", x.clear(), y.clear());
        int many = way == 0 ? x.count(0) + 1 + below(2) : way * x.count(1);
        y.count(0);
        for (int i = 0; i < many && i < 16; i++) {
            int v = way == 0 ? i > x.count(0) ? 50 : x.down(i, 8) + 50 : below(way == 1 ? 19 : 5) + (way == 1 ? 0 : 7);
            v = below(12) == 0 ? below(100) : v;
            check.due("run " + run + ": row", x.row(v), y.row(v));
        }
        if (way == 0) {
            check.due("run " + run + ": judge", x.judge(), y.judge());
        } else if (way == 1) {
            check.due("run " + run + ": beats", x.beats(), y.beats());
        } else {
            int f = below(10);
            check.due("run " + run + ": fits", x.fits(f), y.fits(f));
        }
    }

    private void run(int run) throws ReflectiveOperationException {
        AppealsDown x = new AppealsDown();
        Plain y = new Plain();
        if (below(4) > 0) {
            fill(x, y, run);
        }
        StringBuilder so = new StringBuilder();
        int told = 0;
        for (int call = 0; call < CALLS; call++) {
            int other = below(30);
            if (other == 0 && told < 3) {
                told++;
                tell(x, y, run);
                continue;
            }
            if (other == 1) {
                tellRow(x, y, run);
                continue;
            }
            int which = below(methods.size());
            Object[] args = new Object[methods.get(which).getParameterCount()];
            for (int i = 0; i < args.length; i++) {
                args[i] = number();
            }
            long[] answers = both(x, y, which, args);
            String name = methods.get(which).getName() + Arrays.toString(args);
            so.append(' ').append(name);
            check.due("run " + run + " (" + so + " )", answers[0], answers[1]);
            int what = below(8);
            check.due("run " + run + ": count(" + what + ") behind " + name, x.count(what), y.count(what));
            what = 11 + below(6);
            check.due("run " + run + ": count(" + what + ") behind " + name, x.count(what), y.count(what));
        }
        for (int what = -1; what < 18; what++) {
            check.due("run " + run + ": count(" + what + ") at the end", x.count(what), y.count(what));
        }
    }

    /** All arguments that matter, of some methods, at one case. */
    private void sweep(int run) throws ReflectiveOperationException {
        AppealsDown x = new AppealsDown();
        Plain y = new Plain();
        fill(x, y, run);
        for (int some = 0; some < 5; some++) {
            int which = below(methods.size());
            Method method = methods.get(which);
            int many = method.getParameterCount();
            int firsts = many == 0 ? 1 : 13;
            int seconds = many < 2 ? 1 : 6;
            for (int i = 0; i < firsts * seconds; i++) {
                Object[] args = new Object[many];
                for (int at = 0; at < many; at++) {
                    args[at] = at == 0 ? i / seconds - 2 : at == 1 ? i % seconds - 1 : below(10) - 1;
                }
                long[] answers = both(x, y, which, args);
                check.due("sweep " + run + ": " + method.getName() + Arrays.toString(args), answers[0], answers[1]);
            }
        }
    }

    public static void main(String[] args) throws ReflectiveOperationException {
        ModelTest test = new ModelTest();
        for (int run = 0; run < RUNS; run++) {
            test.run(run);
            test.sweep(run);
        }
        test.check.end("ModelTest");
    }
}
