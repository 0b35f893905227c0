/** Promises 1 to 9 and 46 to 52: what is held, what changes it, and what comes back; answers worked out by hand. */
public final class StateTest {
    private static final int HIGH = 1000000000;
    private static final Check CHECK = new Check();

    private static void due(String call, long got, long want) {
        CHECK.due(call, got, want);
    }

    /** A case with something of everything, for the tests of what must stay as it was. */
    private static AppealsDown some() {
        return Check.of("n3;p0+5;p1-4;p2+1;c2345;c5099;s250;l2;");
    }

    private static void isSome(String when, AppealsDown x) {
        due(when + ": courts", x.count(0), 2);
        due(when + ": POINTS", x.count(1), 3);
        due(when + ": STAKE", x.count(2), 250);
        due(when + ": LENGTH", x.count(3), 2);
        due(when + ": POINT 0", x.down(0, 0), 5);
        due(when + ": POINT 1", x.down(0, 1), -4);
        due(when + ": POINT 2", x.down(0, 2), 1);
        due(when + ": KIND 0", x.court(0, 0), 2);
        due(when + ": FIGURE 0", x.court(0, 1), 3);
        due(when + ": COST 0", x.court(0, 2), 45);
        due(when + ": KIND 1", x.court(1, 0), 5);
        due(when + ": FIGURE 1", x.court(1, 1), 0);
        due(when + ": COST 1", x.court(1, 2), 99);
    }

    private static void promise1() {
        AppealsDown x = new AppealsDown();
        int[] counts = {0, 4, 100, 6, 0, 0, 0, 0};
        for (int what = 0; what < counts.length; what++) {
            due("1: count(" + what + ")", x.count(what), counts[what]);
        }
        for (int i = 0; i < 4; i++) {
            due("1: down(0, " + i + ")", x.down(0, i), 0);
        }
        due("1: restore()", x.restore(), -3);
        due("1: back()", x.back(), -3);
    }

    private static void promise2() {
        AppealsDown x = new AppealsDown();
        due("2: feed(99)", x.feed(99), 1);
        due("2: feed(0)", x.feed(0), 2);
        due("2: feed(255)", x.feed(255), 3);
        due("2: feed(256)", x.feed(256), -6);
        due("2: feed(-1)", x.feed(-1), -4);
        due("2: feed(least)", x.feed(Integer.MIN_VALUE), -4);
        due("2: feed(greatest)", x.feed(Integer.MAX_VALUE), -6);
        for (int i = 4; i <= 96; i++) {
            due("2: letter " + i, x.feed(59), i);
        }
        due("2: the 97th", x.feed(59), -6);
        due("2: the 97th below 0", x.feed(-1), -4);
        due("2: count(4)", x.count(4), 96);
        CHECK.refusals("2", x, 0, 0, 0, 3, 3);
    }

    private static void told(String text, int want) {
        due("3: " + text, Check.tell(new AppealsDown(), text), want);
    }

    private static void promise3Places() {
        told("", -1000);
        told("c", -1001);
        told("c0000", -1005);
        told("c0000;p", -1007);
        told("x", -1000);
        told(";", -1000);
        told("c0000;;", -1006);
        told("c0x00;", -1002);
        told("c0000:", -1005);
        told("c00000;", -1005);
        told("n4", -1002);
        told("n4;n", -1004);
        told("n44;", -1002);
        told("n+;", -1001);
        told("p0*1;", -1002);
        told("p01;", -1002);
        told("p+1;", -1001);
        told("p0+;", -1003);
        told("p0+12;", -1004);
        told("s12;", -1003);
        told("s1234;", -1004);
        told("l;", -1001);
        told("u1;", -1001);
        told("u", -1001);
        told("U;", -1000);
        told("n4; n4;", -1003);
        told("c6000;", -2000);
        told("c9999;", -2000);
        told("n0;", -2000);
        told("n9;", -2000);
        told("p4+1;", -2000);
        told("l9;", -2000);
        told("u;", -2000);
        told("c0000;u;u;", -2008);
        told("n2;p1+1;p2+1;", -2008);
        told("n3;p3-1;n9;", -2003);
        told("n0;x", -1003);
        told("n0;n", -1004);
        told("c0000;c0000;c0000;c0000;c0000;c0000;c0000;c0000;u;", -2042);
    }

    private static void promise3() {
        promise3Places();
        told("n5;p4+1;", 2);
        told("c5999;s999;s000;l8;l0;n8;n1;", 7);
        told("c0000;c0000;c0000;c0000;c0000;c0000;c0000;u;c0000;", 9);
        told("l1;".repeat(32), 32);
        AppealsDown x = some();
        isSome("3: a case", x);
        due("3: letters that are no more", x.count(4), 0);
        due("3: nothing behind a case", x.caseOf(), -1000);
        due("3: p0-0;", Check.tell(x, "p0-0;"), 1);
        due("3: POINT 0", x.down(0, 0), 0);
        due("3: p0-9;", Check.tell(x, "p0-9;"), 1);
        due("3: POINT 0", x.down(0, 0), -9);
        due("3: fewer, then more", Check.tell(x, "n1;n3;"), 2);
        due("3: POINT 1 became 0", x.down(0, 1), 0);
        due("3: POINT 2 became 0", x.down(0, 2), 0);
        due("3: none became lower than it must", x.down(0, 0), -9);

        AppealsDown y = some();
        y.point(0, 5);
        due("3: kind 2 behind what is well", Check.tell(y, "p0+9;c0000;u;u;s001;l0;n9;"), -2023);
        due("3: letters, with a FAULT neither", y.count(4), 0);
        due("3: kind 1", Check.tell(y, "p0+9;s9"), -1007);
        due("3: can be TAKEN BACK still", y.count(6), 1);
        isSome("3: with a FAULT nothing", y);
        CHECK.refusals("3: a FAULT is not counted", y, 0, 0, 0, 0, 0);
        due("3: without FAULT", Check.tell(y, "l2;"), 1);
        due("3: leaves none", y.back(), -3);
        isSome("3: all stays as it was", y);
    }

    private static void promise4() {
        AppealsDown x = some();
        due("4: court(2, 0)", x.court(2, 0), -1);
        due("4: court(-1, 0)", x.court(-1, 0), -1);
        due("4: court(2, 3)", x.court(2, 3), -1);
        due("4: court(1, 3)", x.court(1, 3), -2);
        due("4: court(1, -1)", x.court(1, -1), -2);
        CHECK.refusals("4", x, 3, 2, 0, 0, 0);
        isSome("4", x);
    }

    private static void promise5() {
        AppealsDown x = some();
        due("5: point(3, 10)", x.point(3, 10), HIGH + 1);
        due("5: point(-1, 0)", x.point(-1, 0), HIGH + 1);
        due("5: point(0, -10)", x.point(0, -10), HIGH + 4);
        due("5: point(0, 10)", x.point(0, 10), HIGH + 6);
        due("5: none of these", x.count(6), 0);
        isSome("5: refused", x);
        CHECK.refusals("5", x, 2, 0, 0, 1, 1);
        due("5: point(0, -9)", x.point(0, -9), 5);
        due("5: point(0, 9)", x.point(0, 9), -9);
        due("5: point(1, 0)", x.point(1, 0), -4);
        due("5: point(0, 9)", x.point(0, 9), 9);
        due("5: each counts", x.count(6), 4);
        due("5: SUM", x.down(0, 8), 10);
    }

    private static void promise6() {
        AppealsDown x = some();
        due("6: kind(2, 6, -1)", x.kind(2, 6, -1), -1);
        due("6: kind(-1, 0, 0)", x.kind(-1, 0, 0), -1);
        due("6: kind(0, 6, -1)", x.kind(0, 6, -1), -2);
        due("6: kind(0, -1, 10)", x.kind(0, -1, 10), -2);
        due("6: kind(0, 0, -1)", x.kind(0, 0, -1), -4);
        due("6: kind(0, 0, 10)", x.kind(0, 0, 10), -6);
        due("6: none of these", x.count(6), 0);
        isSome("6: refused", x);
        CHECK.refusals("6", x, 2, 2, 0, 1, 1);
        due("6: kind(0, 5, 9)", x.kind(0, 5, 9), 23);
        due("6: kind(0, 0, 0)", x.kind(0, 0, 0), 59);
        due("6: kind(1, 5, 0)", x.kind(1, 5, 0), 50);
        due("6: KIND", x.court(0, 0), 0);
        due("6: FIGURE", x.court(0, 1), 0);
        due("6: COST stays", x.court(0, 2), 45);
        due("6: each counts", x.count(6), 3);
    }

    private static void promise7() {
        AppealsDown x = some();
        due("7: lowest(6, -1, 100)", x.lowest(6, -1, 100), -2);
        due("7: lowest(-1, 0, 0)", x.lowest(-1, 0, 0), -2);
        due("7: lowest(0, 10, -1)", x.lowest(0, 10, -1), -4);
        due("7: lowest(0, -1, 100)", x.lowest(0, -1, 100), -4);
        due("7: lowest(0, 10, 0)", x.lowest(0, 10, 0), -6);
        due("7: lowest(0, 0, 100)", x.lowest(0, 0, 100), -6);
        due("7: none of these", x.count(6), 0);
        isSome("7: refused", x);
        CHECK.refusals("7", x, 0, 2, 0, 2, 2);
        due("7: lowest(3, 9, 99)", x.lowest(3, 9, 99), 3);
        due("7: KIND", x.court(2, 0), 3);
        due("7: FIGURE", x.court(2, 1), 9);
        due("7: COST", x.court(2, 2), 99);
        for (int i = 4; i <= 7; i++) {
            due("7: court " + i, x.lowest(0, 0, 0), i);
        }
        due("7: the 8th", x.lowest(0, 0, 0), -6);
        due("7: the 8th with a KIND that is none", x.lowest(6, 0, 0), -2);
        due("7: the 8th below", x.lowest(0, 0, -1), -4);
        due("7: how many", x.count(0), 7);
        due("7: each counts", x.count(6), 5);
    }

    private static void promise8() {
        AppealsDown x = some();
        x.point(0, 5);
        due("8: set(3, -1)", x.set(3, -1), -2);
        due("8: set(-1, 1000)", x.set(-1, 1000), -2);
        due("8: set(0, 0)", x.set(0, 0), -4);
        due("8: set(0, 9)", x.set(0, 9), -6);
        due("8: set(1, -1)", x.set(1, -1), -4);
        due("8: set(1, 1000)", x.set(1, 1000), -6);
        due("8: set(2, -1)", x.set(2, -1), -4);
        due("8: set(2, 9)", x.set(2, 9), -6);
        due("8: refused, they leave it", x.count(6), 1);
        isSome("8: refused", x);
        CHECK.refusals("8", x, 0, 2, 0, 3, 3);
        due("8: set(1, 250)", x.set(1, 250), 250);
        due("8: leaves none, also if all stays", x.back(), -3);
        due("8: set(1, 0)", x.set(1, 0), 250);
        due("8: set(1, 999)", x.set(1, 999), 0);
        due("8: set(2, 0)", x.set(2, 0), 2);
        due("8: set(2, 8)", x.set(2, 8), 0);
        due("8: set(0, 1)", x.set(0, 1), 3);
        due("8: SUM", x.down(0, 8), 5);
        due("8: set(0, 8)", x.set(0, 8), 1);
        due("8: SUM", x.down(0, 8), 5);
        due("8: POINT 7", x.down(0, 7), 0);
        due("8: POINTS beyond became 0", x.down(0, 1), 0);
        due("8: count(1)", x.count(1), 8);
        due("8: count(2)", x.count(2), 999);
        due("8: count(3)", x.count(3), 8);
    }

    private static void promise9() {
        AppealsDown x = some();
        due("9: back()", x.back(), -3);
        x.point(0, 7);
        x.kind(1, 3, 6);
        x.lowest(1, 2, 3);
        x.kind(2, 4, 4);
        x.point(0, 7);
        due("9: five", x.count(6), 5);
        due("9: back()", x.back(), 4);
        due("9: POINT 0", x.down(0, 0), 7);
        due("9: back()", x.back(), 3);
        due("9: KIND 2", x.court(2, 0), 1);
        due("9: FIGURE 2", x.court(2, 1), 2);
        due("9: back()", x.back(), 2);
        due("9: two courts", x.count(0), 2);
        due("9: back()", x.back(), 1);
        due("9: KIND 1", x.court(1, 0), 5);
        due("9: FIGURE 1", x.court(1, 1), 0);
        due("9: back()", x.back(), 0);
        isSome("9", x);
        due("9: back()", x.back(), -3);
        for (int v = 0; v < 10; v++) {
            x.point(0, v);
        }
        due("9: 8 at most", x.count(6), 8);
        for (int i = 7; i >= 0; i--) {
            due("9: back()", x.back(), i);
            due("9: POINT 0", x.down(0, 0), i + 1);
        }
        due("9: older ones no more", x.back(), -3);
        due("9: POINT 0", x.down(0, 0), 1);
        CHECK.refusals("9", x, 0, 0, 3, 0, 0);
        mixed();
        x.point(0, 4);
        x.image();
        x.clear();
        x.feed(65);
        x.point(9, 0);
        due("9: others leave it", x.count(6), 1);
    }

    /** Ten of all sorts, of which the first two are no more when the others are TAKEN BACK. */
    private static void mixed() {
        AppealsDown x = some();
        x.kind(0, 1, 1);
        x.point(2, 9);
        x.point(1, -9);
        x.kind(1, 4, 2);
        x.lowest(3, 3, 3);
        x.kind(2, 0, 9);
        x.point(0, 0);
        x.kind(0, 5, 5);
        x.lowest(2, 1, 8);
        x.point(1, 3);
        int[][] want = {
            // POINTS 0, 1, 2, how many courts, KIND and FIGURE of courts 0, 1
            {0, -9, 9, 4, 55, 42}, {0, -9, 9, 3, 55, 42}, {0, -9, 9, 3, 11, 42}, {5, -9, 9, 3, 11, 42},
            {5, -9, 9, 3, 11, 42}, {5, -9, 9, 2, 11, 42}, {5, -9, 9, 2, 11, 50}, {5, -4, 9, 2, 11, 50}};
        for (int i = 0; i < want.length; i++) {
            due("9: mixed, back()", x.back(), 7 - i);
            for (int p = 0; p < 3; p++) {
                due("9: mixed " + i + ", POINT " + p, x.down(0, p), want[i][p]);
            }
            due("9: mixed " + i + ", courts", x.count(0), want[i][3]);
            due("9: mixed " + i + ", court 0", 10 * x.court(0, 0) + x.court(0, 1), want[i][4]);
            due("9: mixed " + i + ", court 1", 10 * x.court(1, 0) + x.court(1, 1), want[i][5]);
        }
        due("9: mixed, older ones", x.back(), -3);
    }

    private static void promise46to48() {
        AppealsDown x = new AppealsDown();
        due("48: clear() of none", x.clear(), 0);
        due("47: judge() of none", x.judge(), -9);
        due("46: row(-1)", x.row(-1), -4);
        due("46: row(100)", x.row(100), -6);
        due("46: row(0)", x.row(0), 1);
        due("46: row(99)", x.row(99), 2);
        for (int i = 3; i <= 16; i++) {
            due("46: number " + i, x.row(50), i);
        }
        due("46: the 17th", x.row(50), -6);
        due("46: the 17th below", x.row(-1), -4);
        due("46: count(5)", x.count(5), 16);
        CHECK.refusals("46", x, 0, 0, 0, 2, 2);
        due("48: clear()", x.clear(), 16);
        due("48: count(5)", x.count(5), 0);
        due("48: clear() again", x.clear(), 0);
        // (3, 5): SUM 8; behind the BENCH (3, -5): -2; behind the COURT (3, -2): 1.
        AppealsDown y = Check.of("n2;p0+3;p1+5;c1000;c0000;");
        int[] sums = {58, 48, 51};
        for (int sum : sums) {
            y.row(sum);
        }
        due("47: all so", y.judge(), -9);
        due("47: the ROW has none then", y.count(5), 0);
        y.row(58);
        due("47: fewer than all", y.judge(), -9);
        for (int sum : sums) {
            y.row(sum);
        }
        y.row(51);
        due("47: beyond the courts", y.judge(), 3);
        due("47: the ROW has none then", y.count(5), 0);
        y.row(58);
        y.row(49);
        y.row(50);
        due("47: the second not", y.judge(), 1);
        y.row(57);
        y.row(48);
        due("47: the first not", y.judge(), 0);
        CHECK.refusals("47", y, 0, 0, 0, 0, 0);
    }

    private static void promise49() {
        AppealsDown x = Check.of("n4;");
        due("49: lots(0, 7, 2)", x.lots(0, 7, 2), -4);
        due("49: lots(21, 7, 2)", x.lots(21, 7, 2), -6);
        due("49: lots(1, 7, 2)", x.lots(1, 7, 2), -2);
        due("49: lots(1, 7, -1)", x.lots(1, 7, -1), -2);
        CHECK.refusals("49", x, 0, 2, 0, 1, 1);
        for (int seed = -3; seed <= 3; seed++) {
            for (int n = 1; n <= 20; n += 19) {
                int[] want = lotsByWords(n, seed * 98765431, 4);
                due("49: FOR, seed " + seed, x.lots(n, seed * 98765431, 0), want[0]);
                due("49: other, no courts", x.lots(n, seed * 98765431, 1), 0);
            }
        }
        // One POINT, told by its BENCH as the other sign: FOR becomes AGAINST and the other way, 0 stays.
        AppealsDown y = Check.of("n1;c1000;p0+9;");
        for (int seed = 1; seed < 9; seed++) {
            int[] want = lotsByWords(20, seed, 1);
            due("49: one POINT turned", y.lots(20, seed, 0), want[1]);
            due("49: other than at first", y.lots(20, seed, 1), want[0] + want[1]);
        }
        due("49: POINTS stay", y.down(0, 0), 9);
    }

    /** How many of the cases have a SUM above 0, and below 0. */
    private static int[] lotsByWords(int n, int z, int points) {
        int[] many = new int[2];
        long seed = z;
        for (int i = 0; i < n; i++) {
            int sum = 0;
            for (int p = 0; p < points; p++) {
                seed = (seed * 1103515245L + 12345L) & 0xFFFFFFFFL;
                sum += (int) ((seed & 0x7FFFFFFFL) / 65536L % 19L) - 9;
            }
            many[0] += sum > 0 ? 1 : 0;
            many[1] += sum < 0 ? 1 : 0;
        }
        return many;
    }

    private static void promise50and51() {
        AppealsDown x = some();
        due("51: restore() of none", x.restore(), -3);
        x.feed(117);
        x.row(7);
        x.point(0, 5);
        due("50: image()", x.image(), 2);
        due("50: it takes nothing away", x.count(6), 1);
        x.lowest(0, 0, 0);
        x.kind(0, 1, 1);
        x.point(0, -9);
        x.row(8);
        x.feed(59);
        due("51: restore() leaves what is refused", x.count(6), 4);
        due("51: restore()", x.restore(), 2);
        isSome("51", x);
        due("51: letters stay", x.count(4), 2);
        due("51: the ROW stays", x.count(5), 2);
        due("51: none to be TAKEN BACK", x.back(), -3);
        CHECK.refusals("51: REFUSALS stay", x, 0, 0, 2, 0, 0);
        x.set(0, 8);
        x.set(1, 1);
        x.set(2, 1);
        due("51: the letters, a case", x.caseOf(), 1);
        due("51: restore() again", x.restore(), 2);
        isSome("51: again", x);
        x.point(1, 9);
        due("51: restore() leaves none", x.restore(), 2);
        due("51: none", x.count(6), 0);
        x.point(1, 9);
        x.image();
        x.point(1, 0);
        x.restore();
        due("50: taken anew", x.down(0, 1), 9);
        AppealsDown y = some();
        y.point(0, 5);
        due("51: refused", y.restore(), -3);
        due("51: refused, it leaves them", y.count(6), 1);
        isSome("51: refused", y);
    }

    private static void promise52() {
        AppealsDown x = some();
        due("52: not 0", x.count(7), 3);
        x.point(2, 0);
        x.row(4);
        x.feed(4);
        x.feed(4);
        int[] want = {2, 3, 250, 2, 2, 1, 1, 2};
        for (int what = 0; what < want.length; what++) {
            due("52: count(" + what + ")", x.count(what), want[what]);
        }
        int[] none = {-1, 8, 9, 10, 17, Integer.MIN_VALUE, Integer.MAX_VALUE};
        for (int what : none) {
            due("52: count(" + what + ")", x.count(what), -9);
        }
        x.share(9);
        x.turns(9);
        x.turns(9);
        x.fits(0);
        x.survive(-1);
        x.survive(5);
        CHECK.refusals("52", x, 1, 2, 1, 1, 1);
    }

    /** The calls that README.md shows, with the answers it tells. */
    private static void readme() {
        CHECK.rows("README", new AppealsDown(), "count(0)=0 count(1)=4 count(2)=100 count(3)=6 lowest(1,0,10)=1"
                + " point(0,7)=0 down(1,8)=-7 down(1,9)=0 back()=1 'n3;p1-4;'=2 count(1)=3 down(0,1)=-4");
    }

    public static void main(String[] args) {
        readme();
        promise1();
        promise2();
        promise3();
        promise4();
        promise5();
        promise6();
        promise7();
        promise8();
        promise9();
        promise46to48();
        promise49();
        promise50and51();
        promise52();
        CHECK.end("StateTest");
    }
}
