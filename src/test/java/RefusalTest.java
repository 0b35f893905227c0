/**
 * Every refusal of every promise, in the order in which it tells them, and what count says of them afterwards.
 * Where two would fit, a row of its own asks for the first.
 */
public final class RefusalTest {
    private static final Check CHECK = new Check();

    /** Two courts, three POINTS, and something of all that a refused call must leave as it was. */
    private static AppealsDown some() {
        AppealsDown x = Check.of("n3;p0+5;p1-4;p2+1;c2345;c5099;s250;l2;");
        x.image();
        x.point(0, -7);
        x.row(7);
        x.row(19);
        Check.feed(x, "c0000;p1");
        return x;
    }

    /** The calls are refused as due, count tells so many of each, and all else is as it was. */
    private static void refused(String promise, AppealsDown x, String rows, int... many) {
        String was = Check.seen(x);
        CHECK.refusals(promise + ", ahead", x, 0, 0, 0, 0, 0);
        CHECK.rows(promise, x, rows);
        CHECK.refusals(promise, x, many);
        CHECK.due(promise + ": nothing changes", Check.seen(x).equals(was) ? 1 : 0, 1);
    }

    /** What can't be seen at once: the letters, the ROW, what can be TAKEN BACK, THE IMAGE. */
    private static void leftAlone(String promise, AppealsDown x) {
        Check.feed(x, "+9;");
        CHECK.rows(promise + ", behind it", x, "judge()=0 count(5)=0 point(2,0)=1 back()=1 down(0,2)=1 back()=0"
                + " down(0,0)=5 caseOf()=2 count(0)=3 down(0,1)=9 restore()=2 count(0)=2 down(0,0)=5 down(0,1)=-4");
    }

    private static void refusedOnly(String promise, String rows, int... many) {
        AppealsDown x = some();
        refused(promise, x, rows, many);
        leftAlone(promise, x);
    }

    private static void promises2to4() {
        refusedOnly("2", "feed(-1)=-4 feed(min)=-4 feed(256)=-6 feed(max)=-6", 0, 0, 0, 2, 2);
        AppealsDown full = new AppealsDown();
        Check.feed(full, "l1;".repeat(32));
        refused("2, 96 letters", full, "feed(0)=-6 feed(59)=-6 feed(255)=-6 feed(256)=-6 feed(max)=-6 feed(-1)=-4"
                + " feed(min)=-4", 0, 0, 0, 2, 5);
        CHECK.rows("2, the 96 letters", full, "caseOf()=32 count(3)=1 feed(0)=1");
        AppealsDown faults = new AppealsDown();
        refused("3, FAULTS are not counted", faults, "'u;'=-2000 'x'=-1000 caseOf()=-1000", 0, 0, 0, 0, 0);
        refusedOnly("4", "court(-1,0)=-1 court(2,0)=-1 court(min,0)=-1 court(max,0)=-1 court(-1,-1)=-1 court(2,3)=-1"
                + " court(0,-1)=-2 court(1,3)=-2 court(0,min)=-2 court(1,max)=-2", 6, 4, 0, 0, 0);
    }

    private static void promises5to9() {
        refusedOnly("5", "point(-1,0)=H1 point(3,0)=H1 point(min,0)=H1 point(max,0)=H1 point(-1,-10)=H1"
                + " point(3,10)=H1 point(0,-10)=H4 point(2,min)=H4 point(0,10)=H6 point(2,max)=H6", 6, 0, 0, 2, 2);
        refusedOnly("6", "kind(-1,0,0)=-1 kind(2,0,0)=-1 kind(min,0,0)=-1 kind(max,0,0)=-1 kind(2,6,-1)=-1"
                + " kind(-1,-1,10)=-1 kind(2,0,-1)=-1 kind(2,0,10)=-1 kind(0,-1,0)=-2 kind(1,6,0)=-2 kind(0,min,0)=-2"
                + " kind(1,max,0)=-2 kind(0,6,-1)=-2 kind(0,-1,10)=-2 kind(0,0,-1)=-4 kind(1,5,min)=-4 kind(0,0,10)=-6"
                + " kind(1,5,max)=-6", 8, 6, 0, 2, 2);
        refusedOnly("7", "lowest(-1,0,0)=-2 lowest(6,0,0)=-2 lowest(min,0,0)=-2 lowest(max,0,0)=-2 lowest(6,-1,0)=-2"
                + " lowest(6,0,-1)=-2 lowest(-1,10,0)=-2 lowest(-1,0,100)=-2 lowest(0,-1,0)=-4 lowest(0,0,-1)=-4"
                + " lowest(0,-1,100)=-4 lowest(0,10,-1)=-4 lowest(5,min,max)=-4 lowest(5,max,min)=-4 lowest(0,10,0)=-6"
                + " lowest(0,0,100)=-6 lowest(0,max,0)=-6 lowest(0,0,max)=-6", 0, 8, 0, 6, 4);
        AppealsDown full = Check.of("c0000;c0000;c0000;c0000;c0000;c0000;c0000;");
        refused("7, seven courts", full, "lowest(0,0,0)=-6 lowest(5,9,99)=-6 lowest(0,10,100)=-6 lowest(6,0,0)=-2"
                + " lowest(0,-1,0)=-4 lowest(0,0,-1)=-4", 0, 1, 0, 2, 3);
        refusedOnly("8", "set(-1,1)=-2 set(3,1)=-2 set(min,1)=-2 set(max,1)=-2 set(3,-1)=-2 set(-1,1000)=-2"
                + " set(0,0)=-4 set(0,-1)=-4 set(0,min)=-4 set(0,9)=-6 set(0,max)=-6 set(1,-1)=-4 set(1,min)=-4"
                + " set(1,1000)=-6 set(1,max)=-6 set(2,-1)=-4 set(2,min)=-4 set(2,9)=-6 set(2,max)=-6", 0, 6, 0, 7, 6);
        refused("9", new AppealsDown(), "back()=-3 back()=-3", 0, 0, 2, 0, 0);
    }

    private static void promises10to19() {
        refusedOnly("10", "down(-1,0)=H4 down(min,0)=H4 down(-1,-1)=H4 down(-1,3)=H4 down(-1,10)=H4 down(3,0)=H6"
                + " down(max,0)=H6 down(3,-1)=H6 down(3,3)=H6 down(3,10)=H6 down(0,-1)=H2 down(2,min)=H2 down(0,3)=H2"
                + " down(2,7)=H2 down(0,10)=H2 down(2,max)=H2", 0, 6, 0, 5, 5);
        refusedOnly("11", "turns(-1)=-2 turns(2)=-2 turns(min)=-2 turns(max)=-2", 0, 4, 0, 0, 0);
        refusedOnly("12", "costs(-1)=-4 costs(min)=-4 costs(3)=-6 costs(max)=-6", 0, 0, 0, 2, 2);
        refusedOnly("14", "round(-1)=H2 round(3)=H2 round(min)=H2 round(max)=H2", 0, 4, 0, 0, 0);
        refusedOnly("15", "appeals(-1)=-2 appeals(4)=-2 appeals(min)=-2 appeals(max)=-2", 0, 4, 0, 0, 0);
        refusedOnly("16", "press(-1)=-2 press(2)=-2 press(min)=-2 press(max)=-2", 0, 4, 0, 0, 0);
        refusedOnly("17", "turnsBy(-1,0)=H4 turnsBy(min,0)=H4 turnsBy(-1,-1)=H4 turnsBy(-1,2)=H4 turnsBy(3,0)=H6"
                + " turnsBy(max,0)=H6 turnsBy(3,-1)=H6 turnsBy(3,2)=H6 turnsBy(0,-1)=H2 turnsBy(0,2)=H2"
                + " turnsBy(2,min)=H2 turnsBy(2,max)=H2", 0, 4, 0, 4, 4);
        refusedOnly("19", "survive(-1)=-4 survive(min)=-4 survive(5)=-6 survive(max)=-6", 0, 0, 0, 2, 2);
    }

    private static AppealsDown withRow(int many, int last) {
        AppealsDown x = Check.of("n2;p0+3;p1-2;");
        for (int i = 1; i < many; i++) {
            x.row(9);
        }
        x.row(last);
        return x;
    }

    private static void promises20to22() {
        refusedOnly("20", "fits(-1)=-4 fits(min)=-4 fits(10)=-6 fits(max)=-6 fits(0)=-3 fits(9)=-3", 0, 0, 2, 2, 2);
        refused("20, no numbers", Check.of("n1;"), "fits(-1)=-4 fits(10)=-6 fits(0)=-3", 0, 0, 1, 1, 1);
        refused("20, one too few", withRow(3, 9), "fits(-1)=-4 fits(10)=-6 fits(0)=-3", 0, 0, 1, 1, 1);
        refused("20, one too many", withRow(5, 9), "fits(-1)=-4 fits(10)=-6 fits(0)=-3", 0, 0, 1, 1, 1);
        refused("20, as many as POINTS", withRow(2, 9), "fits(0)=-3", 0, 0, 1, 0, 0);
        refused("20, the last above 18", withRow(4, 19), "fits(-1)=-4 fits(10)=-6 fits(9)=-3", 0, 0, 1, 1, 1);
        refused("20, at 18", withRow(4, 18), "fits(9)=0", 0, 0, 0, 0, 0);
        AppealsDown first = Check.of("n1;");
        first.row(19);
        first.row(0);
        refused("20, the first above 18", first, "fits(0)=-3", 0, 0, 1, 0, 0);
        refusedOnly("21, three", "first(-2)=H4 first(min)=H4", 0, 0, 0, 2, 0);
        for (int many = 1; many <= 8; many++) {
            if (many != 3) {
                refused("21, " + many, Check.of("n" + many + ";"), "first(-2)=H4 first(min)=H4 first(-1)=H3"
                        + " first(0)=H3 first(3)=H3 first(max)=H3", 0, 0, 4, 2, 0);
            }
        }
        refusedOnly("22", "apart(-1,0,0)=-2 apart(0,-1,0)=-2 apart(6,0,0)=-2 apart(0,6,0)=-2 apart(min,0,0)=-2"
                + " apart(0,max,0)=-2 apart(6,0,-1)=-2 apart(0,6,-1)=-2 apart(-1,0,10)=-2 apart(0,-1,10)=-2"
                + " apart(0,1,-1)=-4 apart(0,1,min)=-4 apart(0,1,10)=-6 apart(5,4,max)=-6", 0, 10, 0, 2, 2);
    }

    private static void promises23to28() {
        refused("23, no courts", new AppealsDown(), "treaty(0,0)=-3 treaty(-1,0)=-3 treaty(1,0)=-3 treaty(0,2)=-3"
                + " treaty(min,min)=-3 treaty(max,max)=-3", 0, 0, 6, 0, 0);
        refusedOnly("23", "treaty(-1,0)=-4 treaty(min,0)=-4 treaty(-1,-1)=-4 treaty(-1,2)=-4 treaty(2,0)=-6"
                + " treaty(max,0)=-6 treaty(2,-1)=-6 treaty(2,2)=-6 treaty(0,-1)=-2 treaty(1,2)=-2 treaty(0,min)=-2"
                + " treaty(1,max)=-2", 0, 4, 0, 4, 4);
        refusedOnly("24", "share(-1)=-1 share(2)=-1 share(min)=-1 share(max)=-1", 4, 0, 0, 0, 0);
        refusedOnly("25", "bedtime(1,0)=L4 bedtime(0,0)=L4 bedtime(min,0)=L4 bedtime(1,-1)=L4 bedtime(1,2)=L4"
                + " bedtime(21,0)=L6 bedtime(max,0)=L6 bedtime(21,-1)=L6 bedtime(21,2)=L6 bedtime(2,-1)=L2"
                + " bedtime(20,2)=L2 bedtime(2,min)=L2 bedtime(20,max)=L2", 0, 4, 0, 5, 4);
        refusedOnly("27", "bestOrder(-2)=H4 bestOrder(min)=H4", 0, 0, 0, 2, 0);
        AppealsDown five = Check.of("c0000;c0000;c0000;c0000;c0000;");
        refused("27, five", five, "bestOrder(-2)=H4 bestOrder(-1)=0 bestOrder(max)=-9", 0, 0, 0, 1, 0);
        five.lowest(0, 0, 0);
        CHECK.rows("27, six", five, "bestOrder(-2)=H3 bestOrder(-1)=H3 bestOrder(0)=H3 bestOrder(min)=H3"
                + " bestOrder(max)=H3");
        CHECK.refusals("27, six", five, 0, 0, 5, 1, 0);
        refusedOnly("28", "needed(-1)=-1 needed(3)=-1 needed(min)=-1 needed(max)=-1", 4, 0, 0, 0, 0);
    }

    private static void promises30to42() {
        refusedOnly("30", "biggest(-1)=H2 biggest(2)=H2 biggest(min)=H2 biggest(max)=H2", 0, 4, 0, 0, 0);
        refusedOnly("33", "worst(-1,0)=-1 worst(2,0)=-1 worst(min,0)=-1 worst(max,0)=-1 worst(2,2)=-1 worst(-1,-1)=-1"
                + " worst(0,-1)=-2 worst(1,2)=-2 worst(0,min)=-2 worst(1,max)=-2", 6, 4, 0, 0, 0);
        refusedOnly("36", "flip(-1)=-2 flip(2)=-2 flip(min)=-2 flip(max)=-2", 0, 4, 0, 0, 0);
        refusedOnly("38", "beats()=-3", 0, 0, 1, 0, 0);
        refused("38, no numbers", Check.of("n1;"), "beats()=-3", 0, 0, 1, 0, 0);
        refused("38, one too few", withRow(1, 9), "beats()=-3", 0, 0, 1, 0, 0);
        refused("38, one too many", withRow(3, 9), "beats()=-3", 0, 0, 1, 0, 0);
        refused("38, the last above 18", withRow(2, 19), "beats()=-3", 0, 0, 1, 0, 0);
        refused("38, at 18", withRow(2, 18), "beats()=1", 0, 0, 0, 0, 0);
        refusedOnly("39", "commute(-1,0)=-1 commute(0,-1)=-1 commute(2,0)=-1 commute(0,2)=-1 commute(min,max)=-1"
                + " commute(0,0)=-1 commute(1,1)=-1 commute(2,2)=-1", 8, 0, 0, 0, 0);
        refusedOnly("40", "again(-1,0)=-1 again(2,0)=-1 again(min,0)=-1 again(max,0)=-1 again(2,2)=-1 again(-1,-1)=-1"
                + " again(0,-1)=-2 again(1,2)=-2 again(0,min)=-2 again(1,max)=-2", 6, 4, 0, 0, 0);
        refusedOnly("41", "bestLowest(-1)=-4 bestLowest(min)=-4 bestLowest(10)=-6 bestLowest(max)=-6", 0, 0, 0, 2, 2);
        refusedOnly("42", "peak(-1)=-2 peak(2)=-2 peak(min)=-2 peak(max)=-2", 0, 4, 0, 0, 0);
    }

    private static void promises43to51() {
        refused("43", new AppealsDown(), "fullStake()=-3", 0, 0, 1, 0, 0);
        refused("45", new AppealsDown(), "lastSay()=-3", 0, 0, 1, 0, 0);
        refusedOnly("46", "row(-1)=-4 row(min)=-4 row(100)=-6 row(max)=-6", 0, 0, 0, 2, 2);
        AppealsDown full = new AppealsDown();
        for (int i = 0; i < 16; i++) {
            full.row(50);
        }
        refused("46, 16 numbers", full, "row(0)=-6 row(99)=-6 row(100)=-6 row(-1)=-4 row(min)=-4", 0, 0, 0, 2, 3);
        CHECK.rows("46, the 16 numbers", full, "clear()=16 row(0)=1");
        refusedOnly("49", "lots(0,7,0)=-4 lots(-1,7,0)=-4 lots(min,7,0)=-4 lots(0,7,-1)=-4 lots(0,7,2)=-4"
                + " lots(21,7,0)=-6 lots(max,7,0)=-6 lots(21,7,-1)=-6 lots(21,7,2)=-6 lots(1,7,-1)=-2 lots(20,7,2)=-2"
                + " lots(1,min,min)=-2 lots(20,max,max)=-2", 0, 4, 0, 5, 4);
        refused("51", Check.of("n2;c0000;p1+3;"), "restore()=-3", 0, 0, 1, 0, 0);
        AppealsDown changed = new AppealsDown();
        changed.point(0, 3);
        refused("51, it leaves what can be TAKEN BACK", changed, "restore()=-3", 0, 0, 1, 0, 0);
        CHECK.rows("51", changed, "back()=0 down(0,0)=0");
    }

    /** Those that tell no refusal, and answers below 0 that are none. */
    private static void neverRefused() {
        AppealsDown x = new AppealsDown();
        CHECK.rows("never refused", x, "caseOf()=-1000 up()=-9 standsFast()=0 order()=-9 cheapest()=-9 swing()=0"
                + " rounds()=511 same()=0 dead()=-9 margin()=1 heard()=0 judge()=-9 clear()=0 image()=0 restore()=0"
                + " turns(0)=-9 round(2)=-9 turnsBy(0,1)=-9 bestOrder(0)=-9 biggest(0)=-9 flip(0)=-9 flip(1)=-9"
                + " count(-1)=-9 count(8)=-9 count(9)=-9 count(10)=-9 count(17)=-9 count(min)=-9 count(max)=-9");
        CHECK.refusals("never refused", x, 0, 0, 0, 0, 0);
        AppealsDown y = Check.of("n3;p0-9;p1-9;p2-9;c1000;");
        CHECK.rows("answers below 0", y, "first(-1)=0 first(0)=-9 point(0,-9)=-9 down(0,0)=-9 down(0,8)=-27"
                + " down(1,0)=9 round(1)=-9 turnsBy(0,0)=-9 bestOrder(-1)=-9 biggest(1)=18 press(0)=-9 press(1)=-9"
                + " needed(0)=1 share(0)=-9 again(0,0)=2");
        CHECK.refusals("answers below 0", y, 0, 0, 0, 0, 0);
    }

    public static void main(String[] args) {
        promises2to4();
        promises5to9();
        promises10to19();
        promises20to22();
        promises23to28();
        promises30to42();
        promises43to51();
        neverRefused();
        CHECK.end("RefusalTest");
    }
}
