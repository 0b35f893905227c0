/** Every promise where there is nothing yet, where all has gone again, and where all is full; worked out by hand. */
public final class EmptyFullTest {
    private static final Check CHECK = new Check();

    /** What stands for an object with nothing in it: no courts, four POINTS of 0. */
    private static final String NOTHING = "down(0,0)=0 down(0,3)=0 down(0,4)=H2 down(0,8)=0 down(0,9)=0 down(1,8)=H6"
            + " turns(0)=-9 turns(1)=0 costs(0)=0 costs(1)=-6 up()=-9 round(0)=0 round(1)=0 round(2)=-9 appeals(0)=0"
            + " appeals(1)=0 appeals(2)=0 appeals(3)=0 press(0)=1 press(1)=1 turnsBy(0,0)=0 turnsBy(0,1)=-9"
            + " turnsBy(1,0)=0 turnsBy(1,1)=0 turnsBy(2,0)=0 turnsBy(2,1)=0 standsFast()=0 survive(0)=1 survive(4)=729"
            + " fits(0)=-3 first(-1)=H3 apart(0,1,0)=0 apart(0,0,9)=-9 treaty(0,0)=-3 share(0)=-1 bedtime(2,0)=0"
            + " bedtime(2,1)=1 bedtime(20,0)=0 bedtime(20,1)=1 order()=-9 bestOrder(-1)=0 bestOrder(0)=-9 needed(0)=1"
            + " needed(3)=1 needed(4)=-1 cheapest()=-9 biggest(0)=-9 biggest(1)=0 swing()=0 rounds()=511 worst(0,0)=-1"
            + " same()=0 dead()=-9 flip(0)=-9 flip(1)=-9 margin()=1 beats()=-3 commute(0,1)=-1 again(0,0)=-1"
            + " bestLowest(0)=0 bestLowest(9)=0 peak(0)=0 peak(1)=100 fullStake()=-3 heard()=0 lastSay()=-3"
            + " court(0,0)=-1 kind(0,0,0)=-1 count(0)=0 count(1)=4 count(2)=100 count(3)=6 count(4)=0 count(5)=0"
            + " count(6)=0 count(7)=0";

    private static void nothingYet() {
        AppealsDown x = new AppealsDown();
        CHECK.rows("new", x, NOTHING + " back()=-3 caseOf()=-1000 judge()=-9 clear()=0 restore()=-3");
        CHECK.refusals("new", x, 7, 1, 8, 0, 2);
        CHECK.rows("new, feed", new AppealsDown(), "feed(0)=1 count(4)=1");
        CHECK.rows("new, caseOf", new AppealsDown(), "caseOf()=-1000 count(4)=0");
        CHECK.rows("new, point", new AppealsDown(), "point(0,0)=0 point(3,-9)=0 point(4,0)=H1 count(6)=2 count(7)=1");
        CHECK.rows("new, lowest", new AppealsDown(), "lowest(0,0,0)=1 count(0)=1 count(6)=1");
        CHECK.rows("new, set", new AppealsDown(), "set(0,8)=4 set(1,999)=100 set(2,8)=6 count(6)=0");
        CHECK.rows("new, row", new AppealsDown(), "row(0)=1 count(5)=1");
        CHECK.rows("new, image", new AppealsDown(), "image()=0 restore()=0 image()=0");
    }

    /** An image of nothing brings nothing back, whatever there was. */
    private static void nothingAgain() {
        AppealsDown x = new AppealsDown();
        CHECK.rows("gone", x, "image()=0 'n8;p7-9;c5999;c3099;s999;l0;'=6 point(0,9)=0 restore()=0");
        CHECK.rows("gone by restore()", x, NOTHING + " back()=-3");
        AppealsDown y = new AppealsDown();
        CHECK.rows("gone", y, "'c1099;c3500;p0+3;'=3 'u;p0-0;u;'=3");
        CHECK.rows("gone by letters", y, NOTHING + " 'u;'=-2000");
        AppealsDown z = new AppealsDown();
        CHECK.rows("gone", z, "lowest(5,9,99)=1 point(2,-9)=0 lowest(3,0,0)=2 kind(0,0,0)=59 back()=3 back()=2 back()=1"
                + " back()=0");
        CHECK.rows("gone by back()", z, NOTHING + " back()=-3");
        AppealsDown row = new AppealsDown();
        CHECK.rows("no ROW", row, "row(50)=1 judge()=-9 judge()=-9 row(51)=1 judge()=0 count(5)=0 clear()=0 row(50)=1"
                + " row(50)=2 clear()=2 clear()=0 judge()=-9 beats()=-3 fits(0)=-3");
        AppealsDown letters = new AppealsDown();
        CHECK.rows("no letters", letters, "'l5;'=1 caseOf()=-1000 'l5;x'=-1003 caseOf()=-1000 'l9;'=-2000 caseOf()=-1000");
    }

    /** Seven COURTS over eight POINTS of 9, at the greatest FIGURE, COST, STAKE, LENGTH. */
    private static AppealsDown full() {
        AppealsDown x = Check.of("n8;s999;l8; c0999;c0999;c0999;c0999;c0999;c0999;c0999;");
        for (int point = 0; point < 8; point++) {
            x.point(point, 9);
        }
        return x;
    }

    /** Each COURT makes the first 9 that is left a 4: behind all they are seven of 4, and one of 9. */
    private static void allFull() {
        AppealsDown x = full();
        CHECK.rows("full", x, "count(0)=7 count(1)=8 count(2)=999 count(3)=8 count(6)=8 count(7)=8 court(6,0)=0"
                + " court(6,1)=9 court(6,2)=99 court(7,0)=-1 down(0,8)=72 down(1,8)=67 down(7,8)=37 down(7,9)=1"
                + " down(7,6)=4 down(7,7)=9 down(8,8)=H6 turns(0)=-9 turns(1)=0 costs(7)=693 costs(6)=594 costs(8)=-6"
                + " up()=-9 round(0)=7 round(1)=37 round(2)=-9 appeals(0)=1 appeals(1)=1 appeals(2)=0 appeals(3)=0"
                + " press(0)=0 press(1)=0 standsFast()=7 survive(0)=1 first(-1)=H3 treaty(6,0)=0 treaty(6,1)=0"
                + " treaty(7,0)=-6 share(6)=-9 share(7)=-1 bedtime(20,0)=1 bedtime(20,1)=1 order()=-9 bestOrder(-1)=H3"
                + " needed(7)=-9 needed(8)=-1 cheapest()=0 biggest(0)=0 biggest(1)=-5 swing()=0 rounds()=511"
                + " worst(6,0)=2 worst(6,1)=123 worst(7,0)=-1 same()=21 dead()=-9 flip(0)=-9 flip(1)=-9 margin()=-9"
                + " commute(0,6)=1 commute(0,7)=-1 again(6,0)=33 again(6,1)=1 again(7,0)=-1 bestLowest(9)=0 peak(0)=0"
                + " peak(1)=172 fullStake()=-9 heard()=7 lastSay()=63 lowest(0,0,0)=-6");
        // At 9 one more leaves it: who is for does so, and who is against makes one 8, which no COURT comes to.
        CHECK.rows("full, by turns", x, "turnsBy(0,0)=37 turnsBy(0,1)=-9 turnsBy(1,0)=36 turnsBy(1,1)=0 turnsBy(2,0)=36"
                + " turnsBy(2,1)=0");
    }

    /** BOYS whom eight POINTS are one too many for, so that all stays as low as it can be. */
    private static void allLow() {
        AppealsDown x = Check.of("n8;s000;l7; c3999;c3999;c3999;c3999;c3999;c3999;c3999;");
        for (int point = 0; point < 8; point++) {
            x.point(point, -9);
        }
        CHECK.rows("low", x, "down(0,8)=-72 down(7,8)=-72 down(7,9)=0 turns(0)=-9 up()=0 round(0)=-9 round(1)=-99"
                + " round(2)=1 appeals(0)=1 appeals(1)=0 press(0)=-9 press(1)=-9 standsFast()=7 bedtime(2,0)=0"
                + " bedtime(2,1)=1 needed(0)=-99 needed(7)=-99 cheapest()=0 biggest(0)=-9 biggest(1)=0 swing()=0"
                + " rounds()=256 worst(6,0)=3 worst(6,1)=28 same()=21 dead()=0 flip(0)=-9 margin()=-9 commute(0,6)=1"
                + " again(6,0)=1 again(6,1)=1 bestLowest(9)=1 peak(0)=0 peak(1)=28 fullStake()=-9 heard()=0 lastSay()=0"
                + " turnsBy(0,0)=-72 turnsBy(1,0)=-72 turnsBy(1,1)=0 turnsBy(2,0)=-72 turnsBy(2,1)=0");
        // With LENGTH 8 the BOYS turn POINT 0, the least of several, to and fro.
        CHECK.rows("low, LENGTH 8", x, "set(2,8)=7 up()=-9 round(0)=7 round(1)=-54 round(2)=-9 down(7,8)=-54"
                + " down(3,8)=-54 down(2,8)=-72 turns(0)=-9 turns(1)=0 standsFast()=7 heard()=7 peak(0)=1 peak(1)=46"
                + " biggest(0)=0 biggest(1)=18 dead()=-9");
    }

    private static void lettersFull() {
        AppealsDown x = new AppealsDown();
        // 11 letters for a court that comes and goes, and how many POINTS; 85 for one POINT told 17 times.
        Check.feed(x, "c5999;u;n8;" + "p7-9;".repeat(17));
        CHECK.rows("96 letters", x, "count(4)=96 feed(59)=-6 count(4)=96 caseOf()=20 count(4)=0 down(0,7)=-9 feed(1)=1");
        AppealsDown y = new AppealsDown();
        Check.feed(y, "l1;".repeat(31) + "l22");
        CHECK.rows("96 letters, the last not as it must be", y, "feed(59)=-6 caseOf()=-1095 count(3)=6 count(4)=0");
        AppealsDown z = new AppealsDown();
        Check.feed(z, "l1;".repeat(30) + "c00000");
        CHECK.rows("96 letters, the last not as it must be", z, "caseOf()=-1095");
        AppealsDown end = new AppealsDown();
        Check.feed(end, "l1;".repeat(30) + "p0+1;" + "l");
        CHECK.rows("96 letters, something lacks", end, "count(4)=96 caseOf()=-1096");
        AppealsDown late = new AppealsDown();
        Check.feed(late, "l1;".repeat(28) + "s100;s100;" + "u;");
        CHECK.rows("96 letters, no court to go at the end", late, "count(4)=96 caseOf()=-2094 count(3)=6");
    }

    private static void changesFull() {
        AppealsDown x = new AppealsDown();
        CHECK.rows("8 changes", x, "point(0,1)=0 point(0,2)=1 point(0,3)=2 point(0,4)=3 point(0,5)=4 point(0,6)=5"
                + " point(0,7)=6 count(6)=7 point(0,8)=7 count(6)=8 point(0,9)=8 count(6)=8 lowest(0,0,0)=1 count(6)=8"
                + " kind(0,5,9)=0 count(6)=8 point(9,0)=H1 count(6)=8");
        CHECK.rows("8 changes, back", x, "back()=7 court(0,0)=0 court(0,1)=0 back()=6 count(0)=0 down(0,0)=9 back()=5"
                + " down(0,0)=8 back()=4 down(0,0)=7 back()=3 down(0,0)=6 back()=2 down(0,0)=5 back()=1 down(0,0)=4"
                + " back()=0 down(0,0)=3 back()=-3 down(0,0)=3 point(0,0)=3 back()=0 down(0,0)=3 back()=-3");
        AppealsDown courts = new AppealsDown();
        CHECK.rows("7 courts and one more change", courts, "lowest(5,9,99)=1 lowest(0,0,0)=2 lowest(0,0,0)=3"
                + " lowest(0,0,0)=4 lowest(0,0,0)=5 lowest(0,0,0)=6 lowest(4,8,7)=7 lowest(0,0,0)=-6 kind(6,1,2)=48"
                + " count(6)=8 back()=7 court(6,0)=4 court(6,1)=8 court(6,2)=7 back()=6 count(0)=6 lowest(3,1,2)=7"
                + " count(6)=7 court(6,0)=3 court(6,1)=1 court(6,2)=2");
        AppealsDown same = new AppealsDown();
        CHECK.rows("also if all stays", same, "lowest(2,3,4)=1 point(0,0)=0 kind(0,2,3)=23 count(6)=3 back()=2"
                + " court(0,0)=2 court(0,1)=3 court(0,2)=4 back()=1 down(0,0)=0 back()=0 count(0)=0");
        String[] leaveNone = {"set(0,4)=4", "set(1,100)=100", "set(2,6)=6", "'l6;'=1", "image()=0 restore()=0"};
        for (String call : leaveNone) {
            AppealsDown x1 = new AppealsDown();
            CHECK.rows("leaves none", x1, "point(0,0)=0 count(6)=1 " + (call.startsWith("image") ? "image()=0 " : "")
                    + call + " count(6)=0 back()=-3 point(0,0)=0 count(6)=1");
        }
        String[] leaveAll = {"set(0,0)=-4", "set(0,9)=-6", "set(3,0)=-2", "'u;'=-2000", "'l'=-1001", "restore()=-3",
            "image()=0", "clear()=0", "row(1)=1", "judge()=-9", "feed(1)=1", "round(0)=0", "needed(0)=1",
            "turnsBy(2,0)=1", "press(0)=0", "margin()=1"};
        for (String call : leaveAll) {
            AppealsDown x2 = new AppealsDown();
            x2.point(0, call.startsWith("turns") || call.startsWith("press") ? 1 : 0);
            CHECK.rows("leaves them", x2, call + " count(6)=1 back()=0 down(0,0)=0");
        }
    }

    private static void rowFull() {
        AppealsDown x = Check.of("n8;");
        for (int i = 0; i < 15; i++) {
            x.row(9);
        }
        CHECK.rows("16 numbers", x, "count(5)=15 fits(0)=-3 row(99)=16 row(9)=-6 fits(0)=-3 beats()=-3 judge()=0 count(5)=0"
                + " row(0)=1");
        AppealsDown y = Check.of("n8;");
        for (int i = 0; i < 16; i++) {
            y.row(9);
        }
        // All 0 stay 0 with any but a CONSTABLE; an ALDERMAN is one too, but then halves the -1 away.
        CHECK.rows("16 numbers, FITS", y, "fits(0)=59 fits(9)=59 count(5)=16 clear()=16 clear()=0");
    }

    public static void main(String[] args) {
        nothingYet();
        nothingAgain();
        allFull();
        allLow();
        lettersFull();
        changesFull();
        rowFull();
        CHECK.end("EmptyFullTest");
    }
}
