/** Promises 10 to 22: going down, round, appeals, and what could have been; answers worked out by hand. */
public final class DownTest {
    private static final int HIGH = 1000000000;
    private static final Check CHECK = new Check();

    private static void due(String call, long got, long want) {
        CHECK.due(call, got, want);
    }

    private static void behind(String text, int... want) {
        AppealsDown x = Check.of(text);
        for (int i = 0; i < want.length; i++) {
            due("10: " + text + " POINT " + i, x.down(x.count(0), i), want[i]);
        }
    }

    private static void promise10Laws() {
        behind("n3;p0-7;p1+7;p2+1;c0000;", -3, 7, 1);
        behind("n1;p0-1;c0000;", 0);
        behind("n2;p0+8;p1+9;c0900;", 8, 4);
        behind("n3;p0+2;p1-5;p2+5;c1000;", 2, 5, 5);
        behind("n3;p0+1;p1+2;p2+8;c2000;", 0, 2, -8);
        behind("n3;p0-6;p1+2;p2+5;c2000;", 6, 1, 5);
        behind("n1;p0+4;c2000;", -4);
        behind("n2;p0+9;p1-9;c2000;", -9, -9);
        behind("n2;c2000;", 0, -1);
        behind("n2;p0-6;p1+2;c3300;", 3, 2);
        behind("n2;p0+6;p1+2;c3300;", -3, 2);
        behind("n2;p0+6;p1+2;c3000;", 0, 2);
        behind("n2;c3900;", 0, 0);
        behind("n5;p0+1;p1-1;p2+5;p3-4;c4000;", 0, 0, 2, -3, 0);
        behind("n1;p0-9;c4000;", -4);
        behind("n2;p0+3;p1-8;c5000;", 2, 4);
        behind("n2;p0+5;p1-5;c5000;", -5, -3);
        behind("n1;p0+5;c5000;", -2);
        behind("n3;p0+6;p1+2;p2+1;l2;c3300;", 6, 2, 1);
        behind("n3;p0+6;p1+2;p2+1;l3;c3300;", -3, 2, 1);
        behind("n3;p0+6;p1+2;p2+0;l2;c3300;", -3, 2, 0);
    }

    private static void promise10() {
        AppealsDown x = Check.of(Check.LONG);
        int[] sums = {5, 0, 16, -1, -1, 2, -6};
        for (int k = 0; k < sums.length; k++) {
            due("10: SUM behind " + k, x.down(k, 8), sums[k]);
            due("10: FOR behind " + k, x.down(k, 9), sums[k] > 0 ? 1 : 0);
        }
        due("10: POINT", x.down(0, 3), -8);
        due("10: POINT", x.down(6, 3), -4);
        due("10: down(-1, 10)", x.down(-1, 10), HIGH + 4);
        due("10: down(7, 10)", x.down(7, 10), HIGH + 6);
        due("10: down(6, 10)", x.down(6, 10), HIGH + 2);
        due("10: down(6, -1)", x.down(6, -1), HIGH + 2);
        due("10: no such POINT", x.down(6, 4), HIGH + 2);
        due("10: no such POINT", x.down(6, 7), HIGH + 2);
        CHECK.refusals("10", x, 0, 4, 0, 1, 1);
        due("10: all POINTS stay", x.down(0, 0), 7);
        x.set(0, 8);
        due("10: POINT 7", x.down(0, 7), 0);
    }

    private static void promise11to13() {
        AppealsDown x = Check.of(Check.LONG);
        due("11: turns(0)", x.turns(0), 0);
        due("11: turns(1)", x.turns(1), 5);
        due("11: turns(2)", x.turns(2), -2);
        due("11: turns(-1)", x.turns(-1), -2);
        int[] costs = {0, 10, 30, 35, 37, 38, 38};
        for (int k = 0; k < costs.length; k++) {
            due("12: costs(" + k + ")", x.costs(k), costs[k]);
        }
        due("12: costs(-1)", x.costs(-1), -4);
        due("12: costs(7)", x.costs(7), -6);
        due("13: up()", x.up(), 3);
        CHECK.refusals("11", x, 0, 2, 0, 1, 1);
        AppealsDown y = Check.of("n2;p0+9;p1+9;c0000;c0000;");
        due("11: first", y.turns(0), -9);
        due("11: how many", y.turns(1), 0);
        AppealsDown z = Check.of("n1;p0+9;c0000;c1000;c0000;c1000;");
        due("11: first", z.turns(0), 1);
        due("11: how many", z.turns(1), 2);
        due("13: no BOY", z.up(), -9);
        due("13: no courts", new AppealsDown().up(), -9);
        String boys = "n3;p0+1;p1+1;p2+1;c0000;c3500;c0000;c3500;";
        due("13: just behind the first", Check.of(boys + "l1;").up(), 1);
        due("13: none", Check.of(boys + "l2;").up(), -9);
        due("13: the first", Check.of("n3;p0+1;p1+1;p2+1;c3500;c3500;l2;").up(), 0);
    }

    private static void rounded(String text, int gone, int sum, int circle) {
        AppealsDown x = Check.of(text);
        due("14: " + text + " how many", x.round(0), gone);
        due("14: " + text + " SUM", x.round(1), sum);
        due("14: " + text + " WHEN", x.round(2), circle);
    }

    private static void promise14() {
        rounded("p0+2;p1-5;", 0, -3, -9);
        rounded("n2;p0+5;p1+4;l2;c1000;c3500;", 2, 9, -9);
        rounded("n2;p0+5;p1+4;l1;c1000;c3500;", -9, -99, 4);
        rounded("n2;p0+5;p1+4;l1;c3500;c1000;", -9, -99, 1);
        // (2, 1), (1, 1) is sent back, (0, 1) is not: the BOY makes it (0, -7).
        rounded("n2;p0+2;p1+1;l1;c0000;c3700;", 4, -7, -9);
        rounded("n2;p0+2;p1+1;l1;c0000;c3700;c1000;", 5, 7, -9);
        // A round of its own that is not from the first: (4, 2), (2, 2), (1, 2), (1, 1), (0, 1), then the BOY.
        rounded("n2;p0+4;p1+2;l1;c0000;c3100;", 8, -1, -9);
        rounded("n1;p0+1;l0;c3300;", -9, -99, 1);
        rounded("n1;p0+0;l0;c3300;", 1, 0, -9);
        // (3, 1), and (1, 1), (0, 1), (0, 0) behind COURTS: LENGTH 0 lets go only then.
        rounded("n2;p0+3;p1+1;l0;c0000;c3900;", 6, 0, -9);
        // Just 200, and 201; a circle closed just at 200, and at 201.
        rounded("n8;p0-8;p1+8;p2+7;p3-2;p4+3;p5-3;p6+5;p7+1;l6; c5600;c2700;c2500;c3200;", 200, sumOfLong(), -9);
        rounded("n7;p0+8;p1+3;p2+8;p3+5;p4-6;p5-6;p6-3;l5; c2500;c2900;c2000;c5900;c3800;c3600;", -9, -99, -9);
        rounded("n2;p0-6;p1-4;l0;c2000;c3600;", -9, -99, 4);
        rounded("n2;p0-4;p1-5;l0;c2500;c2300;c3300;c3800;", -9, -99, -9);
        rounded("p0+1;p1+2;p2-1;p3+2;l2;c2400;c2500;c5600;c3800;", -9, -99, 164);
        AppealsDown x = new AppealsDown();
        due("14: round(3)", x.round(3), HIGH + 2);
        due("14: round(-1)", x.round(-1), HIGH + 2);
        CHECK.refusals("14", x, 0, 2, 0, 0, 0);
    }

    /** SUM at the end of the run of just 200: Plain tells it, because no hand goes through 200 courts. */
    private static int sumOfLong() {
        Plain y = new Plain();
        String text = "n8;p0-8;p1+8;p2+7;p3-2;p4+3;p5-3;p6+5;p7+1;l6;c5600;c2700;c2500;c3200;";
        for (int i = 0; i < text.length(); i++) {
            y.feed(text.charAt(i));
        }
        y.caseOf();
        return y.round(1);
    }

    private static void appealed(String text, int... want) {
        AppealsDown x = Check.of(text);
        for (int what = 0; what < 4; what++) {
            due("15: " + text + " " + what, x.appeals(what), want[what]);
        }
    }

    private static void promise15() {
        appealed("p0+1;", 0, 1, 0, 0);
        appealed("p0-1;", 0, 0, 0, 0);
        appealed("n1;p0+9;c1099;s000;", 1, 0, 0, 0);
        // AGAINST behind the first: who is for goes on if STAKE is more than the COST.
        appealed("n1;p0+9;c1050;c1099;s100;", 2, 1, 99, 0);
        appealed("n1;p0+9;c1050;c1099;s099;", 1, 0, 0, 0);
        appealed("n1;p0-9;c1050;c1099;s100;", 2, 0, 0, 99);
        appealed("n1;p0-9;c1050;c1099;s099;", 1, 1, 0, 0);
        // Behind the second the other side would go on and win, so the first one does not begin.
        appealed("n1;p0+9;c1050;c1001;c1001;s100;", 1, 0, 0, 0);
        // AGAINST twice: he pays for both, or does not begin; from the second alone he would go on.
        appealed("n1;p0+9;c1010;c0060;c1060;s121;", 3, 1, 120, 0);
        appealed("n1;p0+9;c1010;c0060;c1060;s120;", 1, 0, 0, 0);
        appealed("n1;p0+9;c1010;c1000;s000;", 1, 0, 0, 0);
        appealed("n1;p0+9;c1010;c1000;s001;", 2, 1, 0, 0);
        appealed(Check.LONG, 1, 0, 0, 0);
        AppealsDown y = Check.of("n1;p0-9;c1010;c1020;");
        due("15: against", y.appeals(3), 20);
        y.point(0, 9);
        due("15: for", y.appeals(2), 20);
        due("15: two courts less", Check.tell(y, "u;u;"), 2);
        int[] none = {0, 1, 0, 0};
        for (int what = 0; what < 4; what++) {
            due("15: no courts any more", y.appeals(what), none[what]);
        }
        AppealsDown x = new AppealsDown();
        due("15: appeals(4)", x.appeals(4), -2);
        due("15: appeals(-1)", x.appeals(-1), -2);
        CHECK.refusals("15", x, 0, 2, 0, 0, 0);
    }

    private static void pressed(String text, int bits, int many) {
        AppealsDown x = Check.of(text);
        due("16: " + text, x.press(0), bits);
        due("16: " + text + " how many", x.press(1), many);
    }

    private static void promise16() {
        pressed("n3;p0-3;p1+1;p2+1;", 3, 2);
        pressed("n3;p0-4;p1+1;p2+1;", 7, 3);
        pressed("n3;p0-5;p1+1;p2+1;", -9, -9);
        pressed("n3;", 1, 1);
        pressed("n3;p0+1;", 0, 0);
        pressed("n2;p0+9;p1-9;", 2, 1);
        pressed("n1;p0+1;c1000;", -9, -9);
        pressed("n1;p0-1;c1000;", 0, 0);
        // The court takes away the POINT that is pressed first: (1, 1) is (0, 1), (1, 0) nothing.
        pressed("n2;c0000;", 3, 2);
        pressed("n8;p0-7;", 255, 8);
        AppealsDown x = new AppealsDown();
        due("16: press(2)", x.press(2), -2);
        due("16: press(-1)", x.press(-1), -2);
        CHECK.refusals("16", x, 0, 2, 0, 0, 0);
    }

    private static void byTurns(String text, int m, int sum, int point) {
        AppealsDown x = Check.of(text);
        due("17: " + text + " " + m + " times", x.turnsBy(m, 0), sum);
        due("17: " + text + " " + m + " times, POINT", x.turnsBy(m, 1), point);
    }

    private static void promise17() {
        byTurns("n1;p0+3;c1000;", 0, -3, -9);
        byTurns("n1;p0+3;c1000;", 1, -3, 0);
        byTurns("n1;p0+9;", 1, 8, 0);
        byTurns("n1;p0+9;", 2, 8, 0);
        byTurns("n2;p0+9;p1+0;", 1, 9, 1);
        byTurns("n2;p0-9;p1+9;", 1, 0, 0);
        byTurns("n3;p0+9;p1+9;p2+8;", 2, 26, 2);
        // Of (7, 7) a BENCH makes 0, of whatever else is one step away -1, two steps away -2 or 0: each must step.
        byTurns("n2;p0+7;p1+7;c1000;", 1, -2, 0);
        AppealsDown x = new AppealsDown();
        due("17: turnsBy(-1, 2)", x.turnsBy(-1, 2), HIGH + 4);
        due("17: turnsBy(3, 2)", x.turnsBy(3, 2), HIGH + 6);
        due("17: turnsBy(0, 2)", x.turnsBy(0, 2), HIGH + 2);
        due("17: turnsBy(2, -1)", x.turnsBy(2, -1), HIGH + 2);
        CHECK.refusals("17", x, 0, 2, 0, 1, 1);
    }

    private static void promise18and19() {
        due("18: at once", Check.of("n1;p0+9;c1000;c1000;").standsFast(), 0);
        due("18: two", Check.of("n1;p0-9;c0000;c0000;c1000;c1000;").standsFast(), 2);
        due("18: all", Check.of("n1;p0-9;c0000;c0000;").standsFast(), 2);
        due("18: none", new AppealsDown().standsFast(), 0);
        due("19: no courts", new AppealsDown().survive(4), 729);
        due("19: a COURT, f 1", Check.of("c0000;").survive(1), 19);
        due("19: a BENCH, f 0", Check.of("c1000;").survive(0), 1);
        due("19: a COURT and a BENCH twice, f 0", Check.of("n1;c0000;c1000;c1000;").survive(0), 1);
        due("19: a BOY who sends it back", Check.of("l0;c3900;").survive(1), 27);
        AppealsDown x = Check.of(Check.LONG);
        due("19: survive(-1)", x.survive(-1), -4);
        due("19: survive(5)", x.survive(5), -6);
        CHECK.refusals("19", x, 0, 0, 0, 1, 1);
        due("19: POINTS stay", x.count(1), 4);
    }

    private static AppealsDown withRow(String text, int... row) {
        AppealsDown x = Check.of(text);
        for (int v : row) {
            x.row(v);
        }
        return x;
    }

    private static void promise20() {
        // Of (5, -5) a COURT makes (2, -5), a BENCH (-5, -5), a CONSTABLE (-5, -6), an ASSIZE (2, -4), an ALDERMAN (-5, -3).
        int[][] became = {{11, 4}, {4, 4}, {4, 3}, {11, 5}, {4, 6}};
        int[] bits = {1, 2, 4, 16, 32};
        for (int i = 0; i < bits.length; i++) {
            AppealsDown x = withRow("n2;l0;", 14, became[i][0], 4, became[i][1]);
            due("20: " + bits[i], x.fits(9), bits[i]);
            due("20: the ROW stays", x.count(5), 4);
        }
        AppealsDown x = withRow("n2;l0;", 14, 4, 4, 4);
        due("20: BENCH", x.fits(4), 2);
        due("20: BENCH and BOY, whatever LENGTH is", x.fits(5), 10);
        due("20: (0, 0) stays", withRow("n2;", 9, 9, 9, 9).fits(3), 59);
        due("20: nothing does so", withRow("n2;", 9, 18, 9, 0).fits(3), 0);
        due("20: a CONSTABLE of (0, 0)", withRow("n2;", 9, 9, 9, 8).fits(3), 4);
        due("20: all there is room for", withRow("n8;", 9, 9, 9, 9, 9, 9, 9, 9, 9, 9, 9, 9, 9, 9, 18, 13).fits(4), 17);
        AppealsDown y = withRow("n2;", 9, 9, 19);
        due("20: fits(-1)", y.fits(-1), -4);
        due("20: fits(10)", y.fits(10), -6);
        due("20: three numbers", y.fits(0), -3);
        y.row(9);
        due("20: one above 18", y.fits(9), -3);
        CHECK.refusals("20", y, 0, 0, 2, 1, 1);
        y.clear();
        due("20: no numbers", y.fits(9), -3);
    }

    private static void firsts(String text, int many, int... want) {
        AppealsDown x = Check.of(text);
        due("21: " + text + " how many", x.first(-1), many);
        for (int i = 0; i < 3; i++) {
            due("21: " + text + " " + i, x.first(i), many == 0 ? -9 : want[i]);
        }
        due("21: beyond", x.first(3), -9);
        due("21: far beyond", x.first(Integer.MAX_VALUE), -9);
    }

    private static void promise21() {
        firsts("n3;p0+2;p1-1;p2-3;", 1, 2, -1, -3);
        firsts("n3;p0-4;p1-4;p2-4;", 1, -4, -4, -4);
        firsts("n3;p0+4;p1+4;p2+4;", 1, 4, 4, 4);
        firsts("n3;p0+5;p1-4;p2-4;", 0);
        firsts("n3;p0+5;", 0);
        firsts("n3;c0000;", 7, -1, 0, 0);
        firsts("n3;p0+4;c1000;", 1, -4, 0, 0);
        // (-1, 1, 1), (1, 1, 1), (0, 2, 1), (0, 3, 1), (0, 1, 2), (0, 1, 3).
        firsts("n3;p1+1;p2+1;c0000;", 6, -1, 1, 1);
        AppealsDown x = new AppealsDown();
        due("21: first(-2)", x.first(-2), HIGH + 4);
        due("21: four POINTS", x.first(-1), HIGH + 3);
        x.set(0, 2);
        due("21: two POINTS", x.first(0), HIGH + 3);
        CHECK.refusals("21", x, 0, 0, 2, 1, 0);
    }

    private static void promise22() {
        AppealsDown x = Check.of("n1;l0;");
        due("22: COURT, BENCH", x.apart(0, 1, 3), 0);
        due("22: BENCH, CONSTABLE", x.apart(1, 2, 3), 0);
        // With POINT 0 -4 both make it 4; so do they with any -4 that is SUREST; (-3, -3, -3) is the first other one.
        due("22: BENCH, BOY with 4", x.apart(1, 3, 4), 91);
        due("22: the other way round", x.apart(3, 1, 4), 91);
        due("22: COURT, BOY with 2", x.apart(0, 3, 2), 0);
        for (int kind = 0; kind < 6; kind++) {
            due("22: one twice", x.apart(kind, kind, 9), -9);
        }
        due("22: apart(6, 0, -1)", x.apart(6, 0, -1), -2);
        due("22: apart(0, -1, 10)", x.apart(0, -1, 10), -2);
        due("22: apart(0, 1, -1)", x.apart(0, 1, -1), -4);
        due("22: apart(0, 1, 10)", x.apart(0, 1, 10), -6);
        CHECK.refusals("22", x, 0, 2, 0, 1, 1);
        due("22: POINTS stay", x.count(1), 1);
    }

    public static void main(String[] args) {
        promise10Laws();
        promise10();
        promise11to13();
        promise14();
        promise15();
        promise16();
        promise17();
        promise18and19();
        promise20();
        promise21();
        promise22();
        CHECK.end("DownTest");
    }
}
