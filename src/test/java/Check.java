import java.lang.reflect.Method;

/** Counts the answers that are not as due, and makes objects from a case told in letters. */
final class Check {
    /** Sums going down: 5, 0, 16, -1, -1 (the BOY would send it back), 2, -6. */
    static final String LONG = "c0010;c1020;c2005;c3702;c4001;c5000;p0+7;p1-3;p2+9;p3-8;s050;l3;";

    private int looked = 0;
    private int wrong = 0;

    void due(String call, long got, long want) {
        looked++;
        if (got != want) {
            wrong++;
            if (wrong <= 50) {
                System.out.println(call + " answered " + got + ", due is " + want);
            }
        }
    }

    /**
     * Calls with the answers that are due, a ' ' between: down(0,8)=5. H4 is 1000000000 less -4, L4 that of a long,
     * min and max are the least and the greatest int; 'c0000;'=1 tells these letters and asks caseOf().
     */
    void rows(String name, AppealsDown x, String rows) {
        for (String row : rows.trim().split("\\s+")) {
            int is = row.lastIndexOf('=');
            String call = row.substring(0, is);
            due(name + ": " + call, answer(x, call), number(row.substring(is + 1)));
        }
    }

    private static long number(String text) {
        switch (text.charAt(0)) {
            case 'H':
                return 1000000000L + number(text.substring(1));
            case 'L':
                return 4000000000000000000L + number(text.substring(1));
            case 'm':
                return text.equals("min") ? Integer.MIN_VALUE : Integer.MAX_VALUE;
            default:
                return Long.parseLong(text);
        }
    }

    private static long answer(AppealsDown x, String call) {
        if (call.charAt(0) == '\'') {
            return tell(x, call.substring(1, call.length() - 1));
        }
        int opens = call.indexOf('(');
        String inside = call.substring(opens + 1, call.length() - 1);
        String[] texts = inside.isEmpty() ? new String[0] : inside.split(",");
        Object[] args = new Object[texts.length];
        for (int i = 0; i < texts.length; i++) {
            args[i] = (int) number(texts[i]);
        }
        try {
            for (Method m : AppealsDown.class.getDeclaredMethods()) {
                if (m.getName().equals(call.substring(0, opens)) && m.getParameterCount() == args.length) {
                    return ((Number) m.invoke(x, args)).longValue();
                }
            }
        } catch (ReflectiveOperationException e) {
            throw new IllegalStateException(call, e);
        }
        throw new IllegalStateException("no such call: " + call);
    }

    /** All that can be seen without changing it: what is counted but the REFUSALS, the courts, the POINTS. */
    static String seen(AppealsDown x) {
        StringBuilder all = new StringBuilder();
        for (int what = 0; what < 8; what++) {
            all.append(x.count(what)).append(' ');
        }
        for (int i = 0; i < x.count(0); i++) {
            all.append('c').append(x.court(i, 0)).append(x.court(i, 1)).append(' ').append(x.court(i, 2)).append(' ');
        }
        for (int i = 0; i < x.count(1); i++) {
            all.append('p').append(x.down(0, i)).append(' ');
        }
        return all.toString();
    }

    /** Letters come, but caseOf() is not asked. */
    static void feed(AppealsDown x, String text) {
        for (int i = 0; i < text.length(); i++) {
            x.feed(text.charAt(i));
        }
    }

    /** The REFUSALS -1, -2, -3, -4, -6 so far; -5 never is. */
    void refusals(String when, AppealsDown x, int... many) {
        for (int i = 0; i < 5; i++) {
            int what = i == 4 ? 16 : 11 + i;
            due(when + ": count(" + what + ")", x.count(what), many[i]);
        }
        due(when + ": count(15)", x.count(15), 0);
    }

    void end(String name) {
        System.out.println(name + ": " + (looked - wrong) + " answers as due, " + wrong + " not");
        if (wrong != 0 || looked == 0) {
            System.exit(1);
        }
    }

    /** The answer of caseOf() when these letters come to x. */
    static int tell(AppealsDown x, String text) {
        feed(x, text);
        return x.caseOf();
    }

    /** A new object with this case, which may be longer than 96 letters: a piece for each ' '. */
    static AppealsDown of(String text) {
        AppealsDown x = new AppealsDown();
        for (String piece : text.split(" ")) {
            if (tell(x, piece) < 0) {
                throw new IllegalStateException("not a case: " + piece);
            }
        }
        return x;
    }
}
