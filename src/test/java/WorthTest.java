/** Promises 23 to 32: what it is worth, who pays, chance, orders, what would have to be other; worked out by hand. */
public final class WorthTest {
    private static final int HIGH = 1000000000;
    private static final long HIGH_LONG = 4000000000000000000L;
    private static final Check CHECK = new Check();

    private static void due(String call, long got, long want) {
        CHECK.due(call, got, want);
    }

    private static void promise23() {
        AppealsDown x = Check.of(Check.LONG);
        int[] lose = {0, 5, 0, 0, 0, 0};
        int[] would = {0, 1, 0, 0, 1, 0};
        for (int k = 0; k < 6; k++) {
            due("23: treaty(" + k + ", 0)", x.treaty(k, 0), lose[k]);
            due("23: treaty(" + k + ", 1)", x.treaty(k, 1), would[k]);
        }
        AppealsDown y = Check.of("n1;p0+9;c1010;c0060;c1060;s121;");
        due("23: both COSTS to come", y.treaty(0, 0), 120);
        due("23: he would", y.treaty(0, 1), 1);
        y.set(1, 120);
        due("23: not for both", y.treaty(0, 0), 0);
        due("23: not for both", y.treaty(0, 1), 0);
        due("23: from behind the second he would", y.treaty(1, 0), 60);
        due("23: from behind the second he would", y.treaty(1, 1), 1);
        due("23: treaty(-1, 2)", x.treaty(-1, 2), -4);
        due("23: treaty(6, 2)", x.treaty(6, 2), -6);
        due("23: treaty(5, 2)", x.treaty(5, 2), -2);
        due("23: treaty(0, -1)", x.treaty(0, -1), -2);
        CHECK.refusals("23", x, 0, 2, 0, 1, 1);
        AppealsDown z = new AppealsDown();
        due("23: no courts", z.treaty(-1, 2), -3);
        CHECK.refusals("23", z, 0, 0, 1, 0, 0);
    }

    private static void promise24() {
        AppealsDown x = Check.of("n1;p0+9;c1010;c0060;c1060;s121;");
        due("24: the first", x.share(0), -9);
        due("24: who is for", x.share(1), 0);
        due("24: who is for", x.share(2), 0);
        x.point(0, -9);
        due("24: who is against", x.share(1), 1);
        due("24: who is against", x.share(2), 1);
        x.set(1, 120);
        due("24: not gone to", x.share(1), -9);
        due("24: not gone to, whoever would from there", x.share(2), -9);
        due("24: share(3)", x.share(3), -1);
        due("24: share(-1)", x.share(-1), -1);
        CHECK.refusals("24", x, 2, 0, 0, 0, 0);
    }

    private static void likely(String text, int t, long above, long below) {
        AppealsDown x = Check.of(text);
        due("25: " + text + " above", x.bedtime(t, 0), above);
        due("25: " + text + " below", x.bedtime(t, 1), below);
    }

    private static void promise25() {
        likely("p0+0;", 2, 0, 1);
        likely("p0+1;", 20, 1, 1);
        likely("n1;p0+5;c1000;", 2, 1, 2);
        likely("n1;p0+5;c1000;", 20, 1, 20);
        likely("n1;p0-5;c1000;", 20, 19, 20);
        likely("n1;p0+5;c1000;c1000;", 4, 5, 8);
        likely("n1;p0+5;c0000;c0000;", 3, 1, 1);
        likely("n1;p0+5;c0000;c0000;c0000;", 3, 19, 27);
        likely("n1;p0-5;c0000;c0000;c0000;", 3, 0, 1);
        // (1 + 0.9 the other way seven times) over 2.
        likely("n1;p0+5;c1000;c1000;c1000;c1000;c1000;c1000;c1000;", 20, 5217031, 20000000);
        likely("n1;l0;p0+5;c3900;", 7, 1, 1);
        likely("n1;l1;p0+5;c3900;", 7, 1, 7);
        AppealsDown x = new AppealsDown();
        due("25: bedtime(1, 2)", x.bedtime(1, 2), HIGH_LONG + 4);
        due("25: bedtime(21, 2)", x.bedtime(21, 2), HIGH_LONG + 6);
        due("25: bedtime(2, 2)", x.bedtime(2, 2), HIGH_LONG + 2);
        due("25: bedtime(20, -1)", x.bedtime(20, -1), HIGH_LONG + 2);
        CHECK.refusals("25", x, 0, 2, 0, 1, 1);
    }

    private static void promise26and27() {
        // COURT then BENCH: (1, 2); BENCH then COURT: (-1, -2).
        String points = "n2;p0+3;p1-2;l0;";
        AppealsDown x = Check.of(points + "c0000;c1000;");
        due("26: as good as can be", x.order(), -9);
        due("27: most", x.bestOrder(-1), 3);
        due("27: as they are", x.bestOrder(0), 0);
        due("27: as they are", x.bestOrder(1), 1);
        AppealsDown y = Check.of(points + "c1000;c0000;");
        due("26: these two", y.order(), 1);
        due("27: most", y.bestOrder(-1), 3);
        due("27: turned", y.bestOrder(0), 1);
        due("27: turned", y.bestOrder(1), 0);
        due("27: beyond", y.bestOrder(2), -9);
        due("27: far beyond", y.bestOrder(Integer.MAX_VALUE), -9);
        // The BOY sends back whatever comes: he does nothing. So 0 and 2, or 1 and 2, may change places alike.
        AppealsDown z = Check.of(points + "c1000;c3000;c0000;");
        due("26: of several the least", z.order(), 2);
        due("27: most", z.bestOrder(-1), 3);
        int[] first = {1, 2, 0};
        for (int i = 0; i < 3; i++) {
            due("27: the first such", z.bestOrder(i), first[i]);
        }
        AppealsDown none = Check.of("p0+7;");
        due("26: no courts", none.order(), -9);
        due("27: no courts", none.bestOrder(-1), 7);
        due("27: no courts", none.bestOrder(0), -9);
        AppealsDown five = Check.of(points + "c3000;c3000;c3000;c1000;c0000;");
        due("26: of five", five.order(), 4);
        int[] want = {0, 1, 2, 4, 3};
        for (int i = 0; i < 5; i++) {
            due("27: of five", five.bestOrder(i), want[i]);
        }
        due("27: bestOrder(-2)", five.bestOrder(-2), HIGH + 4);
        five.lowest(0, 0, 0);
        due("27: more than 5", five.bestOrder(-2), HIGH + 3);
        due("27: more than 5", five.bestOrder(0), HIGH + 3);
        CHECK.refusals("27", five, 0, 0, 2, 1, 0);
        AppealsDown seven = Check.of(points + "c1000;c3000;c3000;c3000;c3000;c3000;c0000;");
        due("26: of seven", seven.order(), 6);
    }

    /** BEST ORDER of five courts, against objects that have them in each order, the first ones first. */
    private static void promise27InEveryOrder() {
        String[] courts = {"c0400;", "c1000;", "c2700;", "c3900;", "c4100;", "c5300;"};
        String[] points = {"n2;p0+4;p1+1;", "n3;p0+9;p1-8;p2+2;", "n3;p0-6;p1-4;p2-5;", "n4;p0-9;p1+9;p2+3;p3-1;",
            "n2;p0-3;p1-3;l1;", "n5;p0+7;p2+6;p4-7;l2;"};
        for (String point : points) {
            for (int without = 0; without < courts.length; without++) {
                String[] five = new String[5];
                for (int i = 0; i < 5; i++) {
                    five[i] = courts[(without + 1 + (without % 2 == 0 ? i : 4 - i)) % 6];
                }
                inEveryOrder(point, five);
            }
        }
    }

    private static void inEveryOrder(String point, String[] five) {
        long most = Long.MIN_VALUE;
        int[] best = new int[5];
        for (int number = 0; number < 3125; number++) {
            int[] order = {number / 625, number / 125 % 5, number / 25 % 5, number / 5 % 5, number % 5};
            int seen = 0;
            StringBuilder text = new StringBuilder(point);
            for (int place : order) {
                seen |= 1 << place;
                text.append(five[place]);
            }
            if (seen == 31) {
                int sum = Check.of(text.toString()).down(5, 8);
                best = sum > most ? order : best;
                most = Math.max(most, sum);
            }
        }
        String text = point + String.join("", five);
        AppealsDown x = Check.of(text);
        due("27: " + text + " most", x.bestOrder(-1), most);
        for (int i = 0; i < 5; i++) {
            due("27: " + text + " " + i, x.bestOrder(i), best[i]);
        }
    }

    private static void promise28() {
        AppealsDown x = Check.of("n2;p1-3;");
        due("28: needed(0)", x.needed(0), 4);
        due("28: needed(1)", x.needed(1), 1);
        due("28: needed(2)", x.needed(2), -1);
        due("28: needed(-1)", x.needed(-1), -1);
        x.point(1, -9);
        due("28: none", x.needed(0), -99);
        x.point(1, -8);
        due("28: the greatest", x.needed(0), 9);
        CHECK.refusals("28", x, 2, 0, 0, 0, 0);
        due("28: POINTS stay", x.down(0, 0), 0);
        due("28: the least", Check.of("n1;c1000;").needed(0), -9);
    }

    private static void promise29() {
        due("29: no courts", new AppealsDown().cheapest(), -9);
        due("29: each is needed", Check.of("n1;p0+5;c0010;c0030;c0030;").cheapest(), -9);
        due("29: the dearest", Check.of("n1;p0+5;c0010;c0030;").cheapest(), 1);
        due("29: of several the least", Check.of("n1;p0+5;c0000;c0000;").cheapest(), 0);
        due("29: not the dearest of all", Check.of("n1;p0+5;c1099;c0010;").cheapest(), 1);
        due("29: whichever FOR is", Check.of("n1;p0-5;c0099;c0010;").cheapest(), 0);
    }

    private static void promise30() {
        AppealsDown x = Check.of(Check.LONG);
        due("30: the court", x.biggest(0), 2);
        due("30: less", x.biggest(1), -17);
        AppealsDown y = Check.of("n1;p0-5;c1000;c1000;");
        due("30: of several the first", y.biggest(0), 0);
        due("30: more", y.biggest(1), 10);
        AppealsDown z = Check.of("n1;c0000;c1000;");
        due("30: by none", z.biggest(0), -9);
        due("30: by none", z.biggest(1), 0);
        due("30: biggest(2)", z.biggest(2), HIGH + 2);
        due("30: biggest(-1)", z.biggest(-1), HIGH + 2);
        CHECK.refusals("30", z, 0, 2, 0, 0, 0);
    }

    private static void promise31() {
        due("31: one", Check.of("n3;p0+5;p1-3;p2+1;").swing(), 1);
        due("31: two", Check.of("n3;p0+2;p1+2;p2-3;").swing(), 3);
        due("31: to FOR", Check.of("n3;p0+2;p1-2;p2-3;").swing(), 6);
        due("31: behind a BENCH", Check.of("n1;p0+5;c1000;").swing(), 1);
        due("31: none", Check.of("n1;c1000;").swing(), 0);
        due("31: the eighth", Check.of("n8;p7+1;").swing(), 128);
    }

    private static void promise32() {
        due("32: no courts", new AppealsDown().rounds(), 511);
        due("32: not by 0, 1", Check.of("n2;p0+5;p1+4;c1000;c3500;").rounds(), 508);
        due("32: not by 0", Check.of("n1;p0+9;c3900;c3900;l0;").rounds(), 510);
        due("32: all", Check.of("n2;p0+2;p1+1;c0000;c3700;l0;").rounds(), 511);
        AppealsDown x = Check.of("n1;p0+9;c3900;l5;");
        due("32: whatever LENGTH is", x.rounds(), 510);
        due("32: LENGTH stays", x.count(3), 5);
        // By 6 just 200; with 7 or 8 at once.
        String just = "n8;p0-8;p1+8;p2+7;p3-2;p4+3;p5-3;p6+5;p7+1; c5600;c2700;c2500;c3200;";
        due("32: in 200", Check.of(just).rounds() & 64, 64);
        String one = "n7;p0+8;p1+3;p2+8;p3+5;p4-6;p5-6;p6-3; c2500;c2900;c2000;c5900;c3800;c3600;";
        due("32: in 201", Check.of(one).rounds() & 32, 0);
    }

    public static void main(String[] args) {
        promise23();
        promise24();
        promise25();
        promise26and27();
        promise27InEveryOrder();
        promise28();
        promise29();
        promise30();
        promise31();
        promise32();
        CHECK.end("WorthTest");
    }
}
