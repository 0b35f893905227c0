/** Counts the answers that are not as due, and makes objects from a case told in letters. */
final class Check {
    /** Sums going down: 5, 0, 16, -1, -1 (the BOY would send it back), 2, -6. */
    static final String LONG = "c0010;c1020;c2005;c3702;c4001;c5000;p0+7;p1-3;p2+9;p3-8;s050;l3;";

    private int looked = 0;
    private int wrong = 0;

    void due(String call, long got, long want) {
        looked++;
        if (got != want) {
            wrong++;
            if (wrong <= 50) {
                System.out.println(call + " answered " + got + ", due is " + want);
            }
        }
    }

    /** The REFUSALS -1, -2, -3, -4, -6 so far; -5 never is. */
    void refusals(String when, AppealsDown x, int... many) {
        for (int i = 0; i < 5; i++) {
            int what = i == 4 ? 16 : 11 + i;
            due(when + ": count(" + what + ")", x.count(what), many[i]);
        }
        due(when + ": count(15)", x.count(15), 0);
    }

    void end(String name) {
        System.out.println(name + ": " + (looked - wrong) + " answers as due, " + wrong + " not");
        if (wrong != 0 || looked == 0) {
            System.exit(1);
        }
    }

    /** The answer of caseOf() when these letters come to x. */
    static int tell(AppealsDown x, String text) {
        for (int i = 0; i < text.length(); i++) {
            x.feed(text.charAt(i));
        }
        return x.caseOf();
    }

    /** A new object with this case, which may be longer than 96 letters: a piece for each ' '. */
    static AppealsDown of(String text) {
        AppealsDown x = new AppealsDown();
        for (String piece : text.split(" ")) {
            if (tell(x, piece) < 0) {
                throw new IllegalStateException("not a case: " + piece);
            }
        }
        return x;
    }
}
