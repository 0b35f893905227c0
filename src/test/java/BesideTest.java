/** Promises 33 to 45: courts one beside the other, and how near another end is; answers worked out by hand. */
public final class BesideTest {
    private static final Check CHECK = new Check();

    private static void due(String call, long got, long want) {
        CHECK.due(call, got, want);
    }

    private static void promise33() {
        // Of 5: COURT 2, BENCH and CONSTABLE -5, BOY less FIGURE, ASSIZE 2, ALDERMAN -2.
        AppealsDown x = Check.of("n1;p0+5;c0400;");
        due("33: of several the least", x.worst(0, 0), 1);
        due("33: SUM and 100", x.worst(0, 1), 95);
        x.kind(0, 0, 6);
        due("33: a BOY", x.worst(0, 0), 3);
        due("33: SUM and 100", x.worst(0, 1), 94);
        x.set(2, 0);
        due("33: he would send it back", x.worst(0, 0), 1);
        due("33: KIND stays", x.court(0, 0), 0);
        due("33: worst(1, 2)", x.worst(1, 2), -1);
        due("33: worst(-1, 0)", x.worst(-1, 0), -1);
        due("33: worst(0, 2)", x.worst(0, 2), -2);
        due("33: worst(0, -1)", x.worst(0, -1), -2);
        CHECK.refusals("33", x, 2, 2, 0, 0, 0);
        // Ahead of a BENCH: what the first makes least it makes most.
        AppealsDown y = Check.of("n1;p0+5;c0400;c1000;");
        due("33: ahead of a BENCH", y.worst(0, 0), 0);
        due("33: ahead of a BENCH", y.worst(0, 1), 98);
        due("33: the BENCH", y.worst(1, 0), 1);
        due("33: the BENCH", y.worst(1, 1), 98);
    }

    private static void promise34() {
        due("34: BENCH and BOY", Check.of("n1;p0+5;c1000;c3500;c0000;").same(), 1);
        due("34: the BOY would send it back", Check.of("n1;p0+5;c1000;c3500;c0000;l0;").same(), 0);
        due("34: all of them", Check.of("n1;c1000;c3500;c0000;c4000;").same(), 6);
        due("34: each as at first", Check.of("n1;p0+5;c0000;c0000;c1000;c0000;").same(), 3);
        due("34: seven", Check.of("c0000;c0000;c0000;c0000;c0000;c0000;c0000;").same(), 21);
        due("34: none", new AppealsDown().same(), 0);
    }

    private static void promise35() {
        due("35: from 2 on", Check.of("n1;p0+2;c0000;c0000;c0000;c1000;").dead(), 2);
        due("35: from 1 on", Check.of("n1;p0+2;c3000;c0000;c3000;c0000;l8;p0+0;n2;p1+7;").dead(), 1);
        due("35: never", Check.of("n1;c0000;c0000;").dead(), 0);
        due("35: no courts", new AppealsDown().dead(), -9);
        due("35: to the end", Check.of("n1;p0+5;c0000;c1000;").dead(), -9);
        due("35: one that does nothing ahead of one that does", Check.of("n1;p0+5;l0;c3900;c1000;").dead(), -9);
        due("35: a BOY who would send it back", Check.of("n2;p0+5;p1-5;c1000;c1000;c3000;l0;").dead(), 2);
        due("35: though SUM stays", Check.of("n2;p0+1;p1-1;c4000;c1000;").dead(), 1);
    }

    private static void flipped(String text, int many, int set) {
        AppealsDown x = Check.of(text);
        due("36: " + text + " how many", x.flip(0), many);
        due("36: " + text + " the set", x.flip(1), set);
    }

    private static void promise36() {
        flipped("n1;p0+5;c1000;", 1, 1);
        flipped("n1;p0+5;c1000;c1000;", 1, 1);
        flipped("n1;p0+5;c0000;c1000;", 1, 2);
        flipped("n1;p0+1;c0000;c0000;", 2, 3);
        flipped("n1;p0+1;c0000;c0000;c1000;", 3, 7);
        flipped("n1;c1000;", -9, -9);
        flipped("p0+5;", -9, -9);
        AppealsDown x = new AppealsDown();
        due("36: flip(2)", x.flip(2), -2);
        due("36: flip(-1)", x.flip(-1), -2);
        CHECK.refusals("36", x, 0, 2, 0, 0, 0);
    }

    private static void promise37() {
        String[] texts = {"p0+0;", "p0-1;", "p0-2;", "p0-3;", "p0+1;", "p0+2;", "p0+3;", "p0+4;"};
        int[] want = {1, 2, 3, -9, 1, 2, 3, -9};
        for (int i = 0; i < texts.length; i++) {
            due("37: " + texts[i], Check.of(texts[i]).margin(), want[i]);
        }
        due("37: one as often as one likes", Check.of("n1;p0-2;").margin(), 3);
        due("37: at 9 not beyond", Check.of("n2;p0+9;p1-9;").margin(), 1);
        due("37: behind a COURT", Check.of("n1;p0+0;c0000;").margin(), 2);
        due("37: behind two", Check.of("n1;p0+0;c0000;c0000;").margin(), -9);
        due("37: behind a BENCH", Check.of("n1;p0+1;c1000;").margin(), 2);
        due("37: LONG", Check.of(Check.LONG).margin(), 1);
    }

    private static void promise38() {
        AppealsDown x = Check.of("n2;p0+3;p1-2;c0000;c1000;");
        due("38: no numbers", x.beats(), -3);
        x.row(12);
        due("38: one number", x.beats(), -3);
        x.row(7);
        due("38: the same SUM", x.beats(), 0);
        due("38: the ROW stays", x.count(5), 2);
        x.row(9);
        due("38: three numbers", x.beats(), -3);
        x.clear();
        x.row(13);
        x.row(6);
        // (4, -3), (2, -3), (2, 3): 5 is more than 3.
        due("38: a greater one", x.beats(), 1);
        x.clear();
        x.row(18);
        x.row(18);
        // (9, 9), (4, 9), (4, -9).
        due("38: a lesser one", x.beats(), 0);
        x.clear();
        x.row(19);
        x.row(9);
        due("38: one above 18", x.beats(), -3);
        CHECK.refusals("38", x, 0, 0, 4, 0, 0);
    }

    private static void promise39() {
        AppealsDown x = Check.of("n2;p0+3;p1-2;c0000;c1000;c1000;c3500;l1;");
        due("39: COURT, BENCH", x.commute(0, 1), 0);
        due("39: BENCH, COURT", x.commute(1, 0), 0);
        due("39: two BENCHES", x.commute(1, 2), 1);
        due("39: a BOY who would send it back", x.commute(3, 1), 1);
        x.set(0, 1);
        due("39: of one POINT", x.commute(0, 1), 1);
        due("39: one twice", x.commute(2, 2), -1);
        due("39: commute(0, 4)", x.commute(0, 4), -1);
        due("39: commute(4, 0)", x.commute(4, 0), -1);
        due("39: commute(-1, 0)", x.commute(-1, 0), -1);
        CHECK.refusals("39", x, 4, 0, 0, 0, 0);
    }

    private static void again(String text, int times, int round) {
        AppealsDown x = Check.of(text);
        due("40: " + text + " how many", x.again(0, 0), times);
        due("40: " + text + " how long", x.again(0, 1), round);
    }

    private static void promise40() {
        again("n1;p0+9;c0000;", 5, 1);
        again("n1;p0+9;c1000;", 2, 2);
        again("n1;p0+0;c1000;", 1, 1);
        again("n1;p0+9;c3400;", 3, 2);
        again("n1;p0+9;c3400;l0;", 1, 1);
        again("n2;p0-2;p1+8;c2000;", 60, 2);
        again("n4;p0+5;p1+5;p2+4;p3-5;c2000;", -9, -9);
        again("n2;p0-6;p1+1;c2000;", -9, -9);
        AppealsDown x = Check.of("n1;p0+9;c0000;c1000;");
        due("40: the other court", x.again(1, 0), 2);
        due("40: again(2, 2)", x.again(2, 2), -1);
        due("40: again(-1, 0)", x.again(-1, 0), -1);
        due("40: again(0, 2)", x.again(0, 2), -2);
        due("40: again(0, -1)", x.again(0, -1), -2);
        CHECK.refusals("40", x, 2, 2, 0, 0, 0);
    }

    private static void promise41() {
        AppealsDown x = Check.of("n1;p0-5;");
        due("41: a BENCH", x.bestLowest(4), 1);
        due("41: of several the least", x.bestLowest(5), 1);
        due("41: a BOY", x.bestLowest(6), 3);
        due("41: bestLowest(-1)", x.bestLowest(-1), -4);
        due("41: bestLowest(10)", x.bestLowest(10), -6);
        CHECK.refusals("41", x, 0, 0, 0, 1, 1);
        due("41: no court comes", x.count(0), 0);
        x.set(2, 0);
        due("41: a BOY who would send it back", x.bestLowest(9), 1);
        due("41: a COURT", Check.of("n1;p0+5;").bestLowest(0), 0);
        due("41: a BOY who leaves it", Check.of("n1;p0+5;l0;").bestLowest(0), 3);
        String seven = "c3000;c3000;c3000;c3000;c3000;c3000;c1000;";
        due("41: an eighth", Check.of("n1;p0+5;l0;" + seven).bestLowest(0), 1);
    }

    private static void promise42() {
        AppealsDown x = Check.of(Check.LONG);
        due("42: behind how many", x.peak(0), 2);
        due("42: SUM and 100", x.peak(1), 116);
        due("42: peak(2)", x.peak(2), -2);
        due("42: peak(-1)", x.peak(-1), -2);
        CHECK.refusals("42", x, 0, 2, 0, 0, 0);
        AppealsDown y = Check.of("n1;p0+5;c1000;c1000;");
        due("42: at first", y.peak(0), 0);
        due("42: at first", y.peak(1), 105);
        AppealsDown z = Check.of("n1;p0-5;c0000;");
        due("42: below 0", z.peak(0), 1);
        due("42: below 0", z.peak(1), 98);
        due("42: no courts", Check.of("p0-9;").peak(1), 91);
    }

    private static void promise43() {
        due("43: no courts", new AppealsDown().fullStake(), -3);
        due("43: one", Check.of("c1099;").fullStake(), 0);
        due("43: at no COST", Check.of("n1;p0+5;c1099;c1000;").fullStake(), 1);
        due("43: two", Check.of("n1;p0+9;c1010;c0060;c1060;").fullStake(), 121);
        due("43: against", Check.of("n1;p0-9;c1010;c0060;c1060;").fullStake(), 121);
        due("43: none", Check.of("n1;p0+9;c1010;c0060;").fullStake(), -9);
        due("43: none", Check.of("n1;p0+9;c1010;c1001;c1001;").fullStake(), -9);
        String six = "c1099;l0; c3099;c3099;c3099;c3099;c3099;c1099;";
        due("43: the dearest", Check.of("n1;p0+9;" + six).fullStake(), 595);
        AppealsDown x = Check.of("n1;p0+9;s007;c1010;c0060;c1060;");
        x.fullStake();
        due("43: STAKE stays", x.count(2), 7);
    }

    private static void promise44and45() {
        due("44: LONG", Check.of(Check.LONG).heard(), 5);
        due("44: none", new AppealsDown().heard(), 0);
        due("44: of 0", Check.of("n1;c0000;c1000;").heard(), 0);
        due("44: though SUM stays", Check.of("n2;p0+1;p1-1;c4000;c1000;").heard(), 1);
        // Of 5: COURT 2, BENCH and CONSTABLE -5, BOY less FIGURE, ASSIZE 2, ALDERMAN -2.
        AppealsDown x = Check.of("n1;p0+5;c3400;");
        due("45: COURT and ASSIZE", x.lastSay(), 17);
        x.set(2, 0);
        due("45: and a BOY who would send it back", x.lastSay(), 25);
        due("45: LONG", Check.of(Check.LONG).lastSay(), 8);
        AppealsDown y = new AppealsDown();
        due("45: no courts", y.lastSay(), -3);
        CHECK.refusals("45", y, 0, 0, 1, 0, 0);
        due("45: the lowest alone", Check.of("n1;p0+5;c1000;c0000;").lastSay(), 2 + 4 + 32);
        due("45: of its FIGURE", Check.of("n1;p0-5;c0300;").lastSay(), 2 + 4 + 8 + 32);
        due("45: of its FIGURE", Check.of("n1;p0-5;c0000;").lastSay(), 2 + 4 + 32);
    }

    public static void main(String[] args) {
        promise33();
        promise34();
        promise35();
        promise36();
        promise37();
        promise38();
        promise39();
        promise40();
        promise41();
        promise42();
        promise43();
        promise44and45();
        CHECK.end("BesideTest");
    }
}
