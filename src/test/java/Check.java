/** Counts the answers that are not as due, and makes objects from a case told in letters. */
final class Check {
    private int looked = 0;
    private int wrong = 0;

    void due(String call, long got, long want) {
        looked++;
        if (got != want) {
            wrong++;
            if (wrong <= 50) {
                System.out.println(call + " answered " + got + ", due is " + want);
            }
        }
    }

    void end(String name) {
        System.out.println(name + ": " + (looked - wrong) + " answers as due, " + wrong + " not");
        if (wrong != 0 || looked == 0) {
            System.exit(1);
        }
    }

    /** The answer of caseOf() when these letters come to x. */
    static int tell(AppealsDown x, String text) {
        for (int i = 0; i < text.length(); i++) {
            x.feed(text.charAt(i));
        }
        return x.caseOf();
    }

    /** A new object with this case, which may be longer than 96 letters: a piece for each ' '. */
    static AppealsDown of(String text) {
        AppealsDown x = new AppealsDown();
        for (String piece : text.split(" ")) {
            if (tell(x, piece) < 0) {
                throw new IllegalStateException("not a case: " + piece);
            }
        }
        return x;
    }
}
