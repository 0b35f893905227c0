/** Each sentence of 'Terms' that names a boundary, at that boundary, in the order of the document; worked out by hand. */
public final class TermsTest {
    private static final Check CHECK = new Check();

    private static void rows(String text, String rows) {
        CHECK.rows(text, Check.of(text), rows);
    }

    /** What POINTS become behind all courts of a case. */
    private static void behind(String text, int... want) {
        AppealsDown x = Check.of(text);
        for (int point = 0; point < want.length; point++) {
            CHECK.due(text + " POINT " + point, x.down(x.count(0), point), want[point]);
        }
        CHECK.due(text + " how many POINTS", x.count(1), want.length);
    }

    // ---- I

    private static void courtsAndPoints() {
        rows("c0000;c1111;c2222;c3333;c4999;c5000;c0199;", "court(6,0)=0 court(6,1)=1 court(6,2)=99 court(5,0)=5"
                + " court(5,1)=0 court(5,2)=0 court(4,1)=9 court(4,2)=99 court(7,0)=-1 court(-1,0)=-1");
        rows("n8;p7-9;p0+9;s000;l0;", "down(0,7)=-9 down(0,0)=9 count(1)=8 count(2)=0 count(3)=0 count(7)=2");
        rows("n1;s999;l8;", "count(1)=1 count(2)=999 count(3)=8 down(0,0)=0 down(0,1)=H2");
        rows("n1;p0+1;", "down(0,8)=1 down(0,9)=1");
        rows("n1;", "down(0,8)=0 down(0,9)=0");
        rows("n1;p0-1;", "down(0,8)=-1 down(0,9)=0");
        rows("n2;p0+9;p1-9;", "down(0,8)=0 down(0,9)=0");
        rows("n2;p0+9;p1-8;", "down(0,8)=1 down(0,9)=1");
    }

    /** Of several that are surest the least, whichever sign they have; of POINTS that are all 0 the first. */
    private static void surest() {
        behind("n2;p0+9;p1-9;c0000;", 4, -9);
        behind("n2;p0-9;p1+9;c0000;", -4, 9);
        behind("n3;p0+8;p1-9;p2+9;c0000;", 8, -4, 9);
        behind("n8;p0+1;p7-2;c1000;", 1, 0, 0, 0, 0, 0, 0, 2);
        behind("n8;p6-1;p7+1;c1000;", 0, 0, 0, 0, 0, 0, 1, 1);
        behind("n3;c2000;", 0, -1, 0);
    }

    private static void courtsOneByOne() {
        int[] was = {9, 8, 3, 2, 1, 0, -1, -2, -3, -8, -9};
        int[] half = {4, 4, 1, 1, 0, 0, 0, -1, -1, -4, -4};
        int[] boy = {-9, -9, -9, -9, -9, 0, 9, 9, 9, 9, 9};
        for (int i = 0; i < was.length; i++) {
            String point = "n1;p0" + (was[i] < 0 ? "-" : "+") + Math.abs(was[i]) + ";";
            behind(point + "c0900;", half[i]);
            behind(point + "c1900;", -was[i]);
            behind(point + "c2900;", -was[i]);
            behind(point + "c3900;", boy[i]);
            behind(point + "c3000;", 0);
            behind(point + "c4900;", half[i]);
            behind(point + "c5900;", -half[i]);
        }
    }

    private static void heldAndBehind() {
        // The POINT behind the last is the first; at -9 it is held.
        behind("n2;p0+9;p1+9;c2000;", -9, 8);
        behind("n2;p0-8;p1+9;c2000;", -9, -9);
        behind("n2;p0-9;p1-9;c2000;", 9, -9);
        behind("n3;p0-8;p2+9;c2000;", -9, 0, -9);
        behind("n3;p0-9;p1-9;p2-9;c2000;", 9, -9, -9);
        behind("n8;p0-8;p7+9;c2000;", -9, 0, 0, 0, 0, 0, 0, -9);
        behind("n8;p0-8;p7+9;c2000;c2000;c2000;", -9, -2, 0, 0, 0, 0, 0, -9);
        behind("n2;p0+1;p1-9;c2000;", 0, 9);
        // All others are nearer to 0 by 1, but never beyond.
        behind("n8;p0+9;p1+1;p2-1;p4+8;p5-8;p6+9;p7-9;c4000;", 4, 0, 0, 0, 7, -7, 8, -8);
        behind("n2;p0-1;p1+1;c4000;", 0, 0);
        behind("n2;c4000;", 0, 0);
        // An ALDERMAN halves whichever is surest behind the CONSTABLE.
        behind("n2;p0+9;p1-9;c5000;", -4, -9);
        behind("n2;p0-8;p1+9;c5000;", -4, -9);
        behind("n2;p0+5;p1-4;c5000;", -2, -5);
        behind("n2;p0+5;p1-5;c5000;", -5, -3);
        behind("n2;p0+1;p1+1;c5000;", 0, 0);
        behind("n2;p0+2;p1+9;c5000;", 1, -4);
        behind("n2;c5000;", 0, 0);
    }

    /** More POINTS than LENGTH are not 0 just at LENGTH 0 to 7, of so many and one. */
    private static void sendingBack() {
        for (int notZero = 0; notZero <= 8; notZero++) {
            StringBuilder points = new StringBuilder("n8;");
            for (int point = 8 - notZero; point < 8; point++) {
                points.append("p").append(point).append("-1;");
            }
            for (int length = 0; length <= 8; length++) {
                AppealsDown x = Check.of(points + "l" + length + "; c3900;");
                boolean sends = notZero > length;
                String name = notZero + " not 0, LENGTH " + length;
                CHECK.due(name + ": up", x.up(), sends ? 0 : -9);
                CHECK.due(name + ": round", x.round(0), sends ? -9 : 1);
                CHECK.due(name + ": WHEN", x.round(2), sends ? 1 : -9);
                CHECK.due(name + ": SUM", x.down(1, 8), sends || notZero == 0 ? -notZero : 10 - notZero);
            }
        }
        rows("n8;p0+1;p1+1;p2+1;p3+1;l0; p4+1;p5+1;p6+1;p7+1;c0000;c1000;c2000;c4000;c5000;", "up()=-9 round(0)=5");
        rows("n1;p0+5;l0;c1000;c1000;c1000;c1000;c1000;c1000;c3500;", "up()=6 down(7,8)=5 round(0)=-9 round(2)=7");
        // (1, 1) comes to the first BOY, (0, 1) to the second: as it comes to him.
        rows("n2;p0+1;p1+1;l1;c0000;c3500;", "up()=-9 down(2,1)=-5");
    }

    // ---- a case in letters

    private static void told(String text, int want) {
        AppealsDown x = new AppealsDown();
        CHECK.due(text, Check.tell(x, text), want);
        CHECK.due(text + " letters", x.count(4), 0);
        if (want < 0) {
            CHECK.due(text + " nothing", Check.seen(x).equals(Check.seen(new AppealsDown())) ? 1 : 0, 1);
            CHECK.refusals(text + " not counted", x, 0, 0, 0, 0, 0);
        }
    }

    /** A letter beside each one that may stand there, at every place of every STATEMENT. */
    private static void wrongLetters() {
        String[] statements = {"c0000;", "n4;", "p0+0;", "s000;", "l0;", "u;"};
        for (String statement : statements) {
            for (int at = 0; at < statement.length(); at++) {
                String ahead = statement.substring(0, at);
                told(ahead, -1000 - at);
                told("l0;" + ahead, at == 0 ? 1 : -1003 - at);
                char due = statement.charAt(at);
                String wrong = at == 0 ? "bdmoqrtvkCNPSLU 0;+-" : due == ';' ? ":<0c " : due == '+' ? "*,./0;p" : "/:;+-c ";
                for (char letter : (wrong + (char) 0 + (char) 127 + (char) 128 + (char) 176 + (char) 255).toCharArray()) {
                    told(ahead + letter, -1000 - at);
                    told(ahead + letter + statement, -1000 - at);
                    told("n4;" + ahead + letter, -1003 - at);
                }
            }
            if (!statement.equals("u;")) {
                told(statement, 1);
                told(statement + statement, 2);
                told(statement + ";", -1000 - statement.length());
            }
        }
        told("", -1000);
    }

    private static void notAsItMustBe() {
        for (int digit = 0; digit <= 9; digit++) {
            told("c" + digit + "000;", digit <= 5 ? 1 : -2000);
            told("c0" + digit + "00;", 1);
            told("c00" + digit + "9;", 1);
            told("n" + digit + ";", digit >= 1 && digit <= 8 ? 1 : -2000);
            told("p" + digit + "+1;", digit <= 3 ? 1 : -2000);
            told("n8;p" + digit + "-9;", digit <= 7 ? 2 : -2003);
            told("n1;p" + digit + "-0;", digit == 0 ? 2 : -2003);
            told("p0+" + digit + ";p3-" + digit + ";", 2);
            told("s" + digit + "99;s" + digit + "00;", 2);
            told("l" + digit + ";", digit <= 8 ? 1 : -2000);
        }
        told("u;", -2000);
        told("c0000;u;u;", -2008);
        told("c0000;c0000;u;u;c0000;u;", 6);
        told("u;c0000;", -2000);
        String six = "c0000;".repeat(6);
        told(six + "c5999;", 7);
        told(six + "c0000;c0000;", -2042);
        told(six + "c0000;u;c0000;u;c0000;u;u;", 13);
        told(six + "c0000;u;c0000;c0000;", -2050);
        // The first STATEMENT, behind all ahead of it in the text.
        told("n5;p4+1;n4;p4+1;", -2011);
        told("n3;p3+1;n9;l9;u;", -2003);
        told("l9;n9;", -2000);
        // Letters that no CASE can go on with come ahead of numbers, wherever they stand.
        told("n9;x", -1003);
        told("l9;u;l", -1006);
        told("u;p9*1;", -1004);
    }

    private static void wholeCases() {
        AppealsDown x = Check.of("p0+9;p1+9;p2+9;p3+9;n2;n4;");
        CHECK.rows("POINTS beyond become 0", x, "down(0,0)=9 down(0,1)=9 down(0,2)=0 down(0,3)=0 set(0,1)=4 set(0,8)=1"
                + " down(0,0)=9 down(0,1)=0 down(0,7)=0 point(7,9)=0 set(0,7)=8 set(0,8)=7 down(0,7)=0 count(7)=1");
        AppealsDown y = Check.of("c5999;p3-9;");
        CHECK.rows("with one nothing", y, "'p3+1;u;n1;s000;l0;c0000;u;u;'=-2026 count(0)=1 count(1)=4 count(2)=100"
                + " count(3)=6 down(0,3)=-9 court(0,0)=5 'n1;l'=-1004 count(1)=4 'n1;'=1 count(1)=1 'c1000;'=1 count(0)=2"
                + " 'u;u;u;'=-2004 count(0)=2 'u;u;'=2 count(0)=0");
        AppealsDown z = Check.of("p0-0;");
        CHECK.rows("less 0", z, "down(0,0)=0 count(7)=0 'p0-9;'=1 down(0,0)=-9 'p0+0;'=1 down(0,0)=0");
    }

    // ---- II

    private static void goingDown() {
        rows("c0010;c0020;", "down(0,8)=0 down(2,8)=0 down(3,8)=H6 down(-1,8)=H4 costs(0)=0 costs(1)=10 costs(2)=30");
        rows("n1;p0+1;c0000;", "turns(0)=0 turns(1)=1 standsFast()=0 heard()=1 dead()=-9");
        rows("n1;p0-1;c0000;", "turns(0)=-9 turns(1)=0 standsFast()=1");
        rows("n1;p0+1;c1000;c1000;c1000;c1000;c1000;c1000;c1000;", "turns(0)=0 turns(1)=7 standsFast()=0");
        rows("n1;p0+1;l0;c3000;c3000;c3000;c3000;c3000;c3000;c1000;", "turns(0)=6 turns(1)=1 standsFast()=6 dead()=-9"
                + " heard()=1 up()=0");
        rows("c0099;c0099;c0099;c0099;c0099;c0099;c0099;", "costs(7)=693 costs(1)=99 costs(0)=0 costs(8)=-6 costs(-1)=-4");
    }

    /** Through 200 courts, and through one more. */
    private static void goingRound() {
        rows("n8;p0-8;p1+8;p2+7;p3-2;p4+3;p5-3;p6+5;p7+1;l6; c5600;c2700;c2500;c3200;", "round(0)=200 round(2)=-9");
        rows("n7;p0+8;p1+3;p2+8;p3+5;p4-6;p5-6;p6-3;l5; c2500;c2900;c2000;c5900;c3800;c3600;", "round(0)=-9 round(1)=-99"
                + " round(2)=-9");
        rows("n1;p0+1;l0;c3100;", "round(0)=-9 round(1)=-99 round(2)=1 rounds()=510");
        rows("n1;p0+1;l0;c1000;c1000;c1000;c1000;c1000;c1000;c3100;", "round(0)=-9 round(1)=-99 round(2)=7");
        rows("n1;p0+1;l0;c1000;c3100;", "round(0)=-9 round(2)=4");
        rows("n1;p0+1;l1;c1000;c3100;", "round(0)=2 round(1)=1 round(2)=-9");
        // The round begins at first, and is longer than half of 200; the other one begins behind 8 courts.
        rows("n2;p0+5;p1+9;c2200;c3800;c2200;c2700;c3900;l1;", "round(0)=-9 round(1)=-99 round(2)=101");
        rows("n3;p0-4;p1-5;p2-4;c5500;c2900;c1400;c2200;c1200;c2100;c3000;l1;", "round(0)=-9 round(2)=126");
        rows("n2;p0-4;p1-9;c2400;c3800;c2900;c3000;l1;", "round(0)=-9 round(2)=104");
        // Once round is all that 200 courts are enough for.
        rows("n6;p0-4;p1-3;p2-2;p3+2;p4-2;p5-4;l1; c2000;c5400;c2400;c1300;c1200;c2700;c3200;", "round(0)=-9 round(2)=196");
        rows("n6;p0-1;p1+1;p2+1;p3-2;p4-1;p5+2;l4; c2600;c1500;c2000;c5900;c3400;", "round(0)=-9 round(2)=195");
        // It comes so again behind just 200, and behind 201, of which the round itself has only 3.
        rows("n4;p0-9;p1-5;p2-4;p3-3;c5200;c2500;c2800;c3500;c2100;c3700;l2;", "round(0)=-9 round(2)=164");
        rows("n2;p0-4;p1-5;c2700;c2600;c3200;c3600;c3700;l0;", "round(0)=-9 round(1)=-99 round(2)=-9");
        rows("n5;p0+4;p1-1;p2+4;p3+3;p4-6;l4; c2100;c2500;c2500;c2700;c5800;c3200;c3500;", "round(0)=199 round(2)=-9");
        rows("n5;p0-2;p1-6;p2-3;p3+2;p4-1;c2200;c5300;c2700;c2500;c3200;l3;", "round(0)=200 round(2)=-9");
        rows("n4;p0+7;p1-7;p2+5;p3+4;l3; c2300;c3600;c1100;c1700;c5500;c5100;c3700;", "round(0)=-9 round(1)=-99"
                + " round(2)=-9");
        // (2), (1) is sent back, (0) is not.
        rows("n1;p0+2;l0;c0000;c3900;", "round(0)=4 round(1)=0 round(2)=-9 rounds()=511");
        // What a call before came to court 0 with is nothing to the next one.
        rows("n1;p0+1;l0;c0000;c3900;", "round(0)=2 again(0,0)=2 point(0,2)=1 round(0)=4 round(2)=-9 again(0,0)=3"
                + " point(0,4)=2 round(0)=6 rounds()=511");
    }

    private static void onAppeal() {
        rows("n1;p0+9;c1099;", "appeals(0)=1 appeals(1)=0 appeals(2)=0 appeals(3)=0 treaty(0,0)=0 treaty(0,1)=0 share(0)=-9");
        rows("n1;p0+9;c1099;c1000;s000;", "appeals(0)=1 appeals(1)=0 treaty(0,1)=0 share(1)=-9 fullStake()=1");
        rows("n1;p0+9;c1099;c1000;s001;", "appeals(0)=2 appeals(1)=1 appeals(2)=0 treaty(0,0)=0 treaty(0,1)=1 share(1)=0");
        rows("n1;p0+9;c1099;c1099;s099;", "appeals(0)=1 appeals(1)=0 appeals(2)=0 fullStake()=100");
        rows("n1;p0+9;c1099;c1099;s100;", "appeals(0)=2 appeals(1)=1 appeals(2)=99 appeals(3)=0 treaty(0,0)=99 share(1)=0");
        rows("n1;p0-9;c1099;c1099;s100;", "appeals(0)=2 appeals(1)=0 appeals(2)=0 appeals(3)=99 treaty(0,0)=99 share(1)=1");
        String seven = "l0;c1099; c3099;c3099;c3099;c3099;c3099;c1099;";
        rows("n1;p0+9;s595;" + seven, "appeals(0)=7 appeals(1)=1 appeals(2)=594 appeals(3)=0 fullStake()=595 share(0)=-9"
                + " share(1)=0 share(6)=0 treaty(0,0)=594 treaty(5,0)=99 treaty(6,0)=0 treaty(6,1)=0 treaty(7,0)=-6");
        rows("n1;p0+9;s594;" + seven, "appeals(0)=1 appeals(1)=0 appeals(2)=0 fullStake()=595 share(1)=-9 share(6)=-9"
                + " treaty(0,0)=0 treaty(0,1)=0 treaty(1,0)=495 treaty(1,1)=1 treaty(5,1)=1 treaty(6,1)=0");
        rows("n1;p0-9;s595;" + seven, "appeals(0)=7 appeals(1)=0 appeals(2)=0 appeals(3)=594 fullStake()=595 share(6)=1"
                + " 'u;u;u;u;u;u;u;'=7 appeals(0)=0 appeals(1)=0 appeals(2)=0 appeals(3)=0 fullStake()=-3 treaty(0,0)=-3");
        rows("n1;p0-9;s594;" + seven, "appeals(0)=1 appeals(1)=1 appeals(3)=0 fullStake()=595");
        for (String who : new String[] {"n1;p0+9;s595;", "n1;p0-9;s595;"}) {
            rows(who + seven, "treaty(0,0)=594 set(1,594)=595 treaty(0,0)=0 appeals(0)=1 appeals(2)=0 appeals(3)=0"
                    + " set(1,595)=594 treaty(0,0)=594 point(0,0)=" + (who.contains("+") ? 9 : -9)
                    + " treaty(0,0)=0 treaty(5,0)=0 appeals(0)=1 appeals(2)=0 appeals(3)=0");
        }
        // The other side would win it back behind the next one.
        rows("n1;p0+9;c1010;c1000;c1000;s999;", "appeals(0)=1 appeals(1)=0 fullStake()=-9 treaty(0,1)=0 treaty(1,1)=1");
    }

    private static void pressing() {
        rows("n2;p0+9;p1-9;", "press(0)=2 press(1)=1");
        rows("n1;p0-1;", "press(0)=-9 press(1)=-9");
        rows("n1;", "press(0)=1 press(1)=1");
        rows("n1;p0+1;", "press(0)=0 press(1)=0");
        rows("n8;p7-7;", "press(0)=255 press(1)=8");
        rows("n8;p7-8;", "press(0)=-9 press(1)=-9");
        rows("n8;p0+9;p7-9;", "press(0)=2 press(1)=1");
        // (9) held is no more than 9 behind a COURT.
        rows("n1;p0-9;c1000;c0000;c0000;c0000;", "press(0)=0 press(1)=0");
        rows("n4;p0-5;p1-6;p2-4;p3+4;l8; c4000;c2000;c2000;c1000;c4000;", "press(0)=10 press(1)=2");
    }

    private static void byTurns() {
        rows("n1;p0+9;", "turnsBy(0,0)=9 turnsBy(0,1)=-9 turnsBy(1,0)=8 turnsBy(1,1)=0 turnsBy(2,0)=8 turnsBy(2,1)=0"
                + " turnsBy(3,0)=H6 turnsBy(-1,0)=H4");
        rows("n1;p0-9;", "turnsBy(0,0)=-9 turnsBy(1,0)=-9 turnsBy(2,0)=-9");
        rows("n1;p0+9;c1000;", "turnsBy(0,0)=-9 turnsBy(1,0)=-9 turnsBy(1,1)=0");
        rows("n2;p0+9;p1+9;", "turnsBy(1,0)=17 turnsBy(1,1)=0 turnsBy(2,0)=17 turnsBy(2,1)=0");
        rows("n2;p0-9;p1-9;", "turnsBy(1,0)=-18 turnsBy(2,0)=-18");
        rows("n2;p0+9;p1+8;", "turnsBy(1,0)=17 turnsBy(1,1)=1");
        rows("n8;", "turnsBy(1,0)=0 turnsBy(1,1)=0 turnsBy(2,0)=0 turnsBy(2,1)=0");
    }

    private static void casesOfThree() {
        rows("n8;p0+9;c1000;", "survive(0)=1 survive(1)=11 survive(4)=197 survive(5)=-6 survive(-1)=-4 count(1)=8");
        rows("n1;l0;c3000;", "survive(0)=1 survive(4)=729");
        rows("n3;p0+4;p1-4;p2+4;", "first(-1)=1 first(0)=4 first(1)=-4 first(2)=4 first(3)=-9 first(max)=-9 first(-2)=H4");
        rows("n3;p0+5;", "first(-1)=0 first(0)=-9 first(2)=-9");
        rows("n3;p2-5;", "first(-1)=0 first(0)=-9");
        rows("n3;p0+4;p1-4;c1000;", "first(-1)=1 first(0)=-4 first(1)=-4 first(2)=0");
        // Of (-1, 0, 1) and (0, -1, 1) the first; six in all.
        rows("n3;p2+1;c0000;", "first(-1)=6 first(0)=-1 first(1)=0 first(2)=1");
        rows("n3;c0000;c0000;c0000;c0000;c0000;c0000;c0000;", "first(-1)=673 first(0)=-4 first(1)=-3 first(2)=-3");
        rows("n3;l0;c3000;", "first(-1)=1 first(0)=0");
        rows("n3;l8;c3000;", "first(-1)=25 first(0)=-4 first(1)=0 first(2)=0");
        rows("l0;n8;", "apart(1,3,4)=91 apart(3,1,4)=91 apart(1,3,3)=0 apart(1,3,5)=0 apart(0,1,0)=0 apart(4,5,9)=0"
                + " apart(5,5,9)=-9 apart(0,0,0)=-9 apart(0,1,10)=-6 apart(0,1,-1)=-4 apart(6,0,0)=-2 apart(0,-1,0)=-2");
    }

    private static AppealsDown withRow(String text, int... row) {
        AppealsDown x = Check.of(text);
        for (int v : row) {
            x.row(v);
        }
        return x;
    }

    private static void fitting() {
        // 9 to 4: COURT, ASSIZE; 9 to -9: BENCH, CONSTABLE, and a BOY of 9; 9 to -4: ALDERMAN.
        CHECK.rows("9 to 4", withRow("n1;l0;", 18, 13), "fits(0)=17 fits(9)=17");
        CHECK.rows("9 to -9", withRow("n1;l0;", 18, 0), "fits(0)=6 fits(9)=14 fits(8)=6");
        CHECK.rows("-9 to 9", withRow("n1;l0;", 0, 18), "fits(0)=6 fits(9)=14");
        CHECK.rows("9 to -4", withRow("n1;l0;", 18, 5), "fits(0)=32 fits(4)=40");
        CHECK.rows("9 to 0", withRow("n1;l0;", 18, 9), "fits(0)=8 fits(1)=0");
        CHECK.rows("(9, -9) to (-9, -9)", withRow("n2;l0;", 18, 0, 0, 0), "fits(9)=14 fits(8)=6");
        CHECK.rows("above 18", withRow("n1;", 19, 9), "fits(0)=-3");
        CHECK.rows("above 18", withRow("n1;", 9, 99), "fits(0)=-3");
    }

    private static void byChance() {
        rows("n2;p0+9;p1+7;c0000;c0000;c0000; c0000;c0000;c0000;c0000;", "bedtime(20,0)=386128261 bedtime(20,1)=1280000000"
                + " bedtime(2,0)=127 bedtime(2,1)=128 bedtime(1,0)=L4 bedtime(21,0)=L6 flip(0)=1 flip(1)=1");
        rows("n1;p0+1;", "bedtime(2,0)=1 bedtime(2,1)=1 bedtime(20,0)=1 bedtime(20,1)=1");
        rows("n1;c1000;", "bedtime(2,0)=0 bedtime(2,1)=1 bedtime(20,0)=0 bedtime(20,1)=1");
        rows("n1;p0+1;c0000;", "bedtime(2,0)=1 bedtime(2,1)=2 bedtime(20,0)=1 bedtime(20,1)=20");
        rows("n1;p0-1;c1000;c1000;", "bedtime(2,0)=1 bedtime(2,1)=2 bedtime(4,0)=3 bedtime(4,1)=8");
    }

    private static void orders() {
        rows("n2;p0+9;p1-8;l8; c5500;c1300;c5900;c2200;c5700;c2500;c5900;", "down(7,8)=-7 order()=56 bestOrder(0)=H3");
        rows("n2;p0-8;p1+4;l8; c4100;c1900;c2100;c2100;c3100;c3700;c5900;", "down(7,8)=-3 order()=25");
        // (6, -7), (6, -3), the other way (-3, -6), (-4, 6): less, though above 0.
        rows("n2;p0-6;p1-6;c2000;c0000;", "order()=-9 bestOrder(-1)=3 bestOrder(0)=0");
        // (-3, -4), (-3, -2), the other way (-3, -5), (-2, -2): more, though below 0.
        rows("n2;p0-6;p1-5;c4000;c0000;", "order()=1 bestOrder(-1)=-4 bestOrder(0)=1 bestOrder(1)=0");
        rows("n2;p0-6;p1-5;c4000;c0000;", "peak(0)=2 order()=1 down(0,8)=-11 order()=1");
        rows("c0000;", "order()=-9 bestOrder(-1)=0 bestOrder(0)=0 bestOrder(1)=-9");
        rows("n2;p0+5;p1-3;l8;c3200;c5500;c4800;c3100;c2200;", "bestOrder(-1)=3 bestOrder(0)=4 bestOrder(1)=3"
                + " bestOrder(2)=2 bestOrder(3)=1 bestOrder(4)=0 bestOrder(5)=-9 bestOrder(max)=-9");
        rows("n3;p0-6;p1-4;p2-5;l8;c5100;c3600;c0200;c3400;c2400;", "bestOrder(-1)=8 bestOrder(0)=2 bestOrder(1)=4"
                + " bestOrder(2)=0 bestOrder(3)=3 bestOrder(4)=1");
        rows("n3;p0+9;p1+8;p2+2;l8;c2700;c3900;c1600;c3100;c3000;", "bestOrder(-1)=11 bestOrder(0)=3 bestOrder(1)=4"
                + " bestOrder(2)=2 bestOrder(3)=0 bestOrder(4)=1");
        rows("n3;p0-4;p1-4;p2+6;l8;c3500;c1700;c4800;c0600;c2500;", "bestOrder(-1)=7 bestOrder(0)=1 bestOrder(1)=2"
                + " bestOrder(2)=3 bestOrder(3)=4 bestOrder(4)=0");
        rows("n2;p0+4;p1+1;l8;c0400;c1600;c2700;c5700;c3000;", "bestOrder(-1)=2 bestOrder(0)=0 bestOrder(1)=4"
                + " bestOrder(2)=3 bestOrder(3)=2 bestOrder(4)=1");
        rows("n8;p0+9;p1+9;c0000;c0000;c0000;c0000;c0000;", "bestOrder(-1)=3 bestOrder(0)=0 bestOrder(4)=4");
    }

    private static void judging() {
        CHECK.rows("SUM -50", withRow("n8;p0-9;p1-9;p2-9;p3-9;p4-9;p5-5; c3000;", 0), "judge()=-9");
        CHECK.rows("SUM 49", withRow("n8;p0+9;p1+9;p2+9;p3+9;p4+9;p5+4;", 99), "judge()=-9 count(5)=0");
        CHECK.rows("SUM 50", withRow("n8;p0+9;p1+9;p2+9;p3+9;p4+9;p5+5;", 99), "judge()=0 count(5)=0");
        CHECK.rows("SUM 0", withRow("n1;", 50), "judge()=-9");
        CHECK.rows("SUM 0", withRow("n1;", 51), "judge()=0");
        CHECK.rows("beyond no courts", withRow("n1;", 50, 50), "judge()=1");
        String seven = "n1;p0+5;c1000;c1000;c1000;c1000;c1000;c1000;c1000;";
        CHECK.rows("eight", withRow(seven, 55, 45, 55, 45, 55, 45, 55, 45), "judge()=-9 count(5)=0");
        CHECK.rows("the ninth", withRow(seven, 55, 45, 55, 45, 55, 45, 55, 45, 55), "judge()=8 count(5)=0");
        CHECK.rows("the eighth", withRow(seven, 55, 45, 55, 45, 55, 45, 55, 55, 55), "judge()=7 count(5)=0");
        CHECK.rows("the first", withRow(seven, 54, 45), "judge()=0");
        CHECK.rows("16", withRow("n1;", 50, 50, 50, 50, 50, 50, 50, 50, 50, 50, 50, 50, 50, 50, 50, 50), "judge()=1");
    }

    /** The seed wraps round: -1 and the greatest int become 1043980748 less what lies beyond the sign, and so on. */
    private static void drawing() {
        // Of 2147483647 the DRAWS are -2, -8, -8, -5.
        rows("n1;c1000;", "lots(1,max,0)=1 lots(1,max,1)=1 lots(20,max,0)=10 lots(20,max,1)=20 lots(20,-1,0)=10"
                + " lots(20,-1,1)=20 lots(20,min,0)=6 lots(20,min,1)=19 lots(20,0,0)=6 lots(20,0,1)=19 lots(20,1,0)=12"
                + " lots(20,1,1)=18 lots(20,7,0)=11 lots(20,7,1)=19 lots(1,7,0)=0 lots(1,7,1)=1 lots(0,7,0)=-4"
                + " lots(21,7,0)=-6 lots(20,7,2)=-2 lots(20,7,-1)=-2");
        rows("n4;c1000;", "lots(20,0,0)=12 lots(20,0,1)=13 lots(20,max,0)=8 lots(20,max,1)=12 lots(20,7,0)=11 lots(20,7,1)=10");
        rows("n8;c1000;", "lots(20,min,0)=6 lots(20,min,1)=13 lots(20,-1,0)=7 lots(20,-1,1)=9 lots(20,1,0)=7 lots(20,1,1)=11");
    }

    // ---- III and IV

    private static void needing() {
        rows("n1;", "needed(0)=1 needed(1)=-1");
        rows("n2;p1+9;", "needed(0)=-8 needed(1)=1");
        rows("n3;p1+9;p2+1;", "needed(0)=-9");
        rows("n2;p1-8;", "needed(0)=9");
        rows("n2;p1-9;", "needed(0)=-99 needed(1)=1");
        rows("n1;c3000;", "needed(0)=-99");
    }

    private static void losing() {
        rows("n1;p0+8;c0000;c0099;", "cheapest()=1");
        rows("n1;p0+8;c0099;c0099;", "cheapest()=0");
        rows("n1;p0+8;c0000;c0000;", "cheapest()=0");
        rows("n1;p0+1;c1000;", "cheapest()=-9");
        rows("n1;p0-8;c0001;c0000;c0002;c0002;c0000;c0001;c0000;", "cheapest()=2");
        rows("n8;p0+9;p1+9;p2+9;p3+9;p4+9;p5+9;c2000;", "biggest(0)=0 biggest(1)=-19");
        rows("n2;p0-9;p1-9;c2000;c1000;", "biggest(0)=0 biggest(1)=18");
        rows("n1;p0+1;c0000;c0000;", "biggest(0)=0 biggest(1)=-1");
        rows("n1;p0+2;c0000;c0000;", "biggest(0)=0 biggest(1)=-1");
        rows("n1;p0+9;c0000;c1000;", "biggest(0)=1 biggest(1)=-8");
    }

    private static void changingSigns() {
        rows("n8;p0+9;", "swing()=1");
        rows("n8;p7+9;", "swing()=128");
        rows("n2;p0+1;p1-1;", "swing()=2");
        rows("n1;", "swing()=0");
        rows("n8;p0+1;p1+1;p2+1;p3+1;p4-1;p5-1;p6-1; ", "swing()=15");
    }

    private static void putting() {
        rows("n1;p0+9;c0900;", "worst(0,0)=1 worst(0,1)=91 lastSay()=17");
        rows("n1;p0-9;c0900;", "worst(0,0)=0 worst(0,1)=96 lastSay()=46");
        rows("n1;p0-9;l0;c0900;", "worst(0,0)=3 worst(0,1)=91 lastSay()=38");
        rows("n1;c0000;", "worst(0,0)=0 worst(0,1)=100 lastSay()=0");
        rows("n1;p0+1;", "bestLowest(0)=0 bestLowest(9)=0");
        rows("n1;p0+9;l0;", "bestLowest(0)=3");
        rows("n1;p0-9;", "bestLowest(8)=1 bestLowest(9)=1");
        rows("n2;p0+1;c1000;c1000;c1000; c1000;c1000;c1000;c1000;", "bestLowest(0)=1 bestLowest(2)=3 bestLowest(1)=1"
                + " count(0)=7");
    }

    private static void sleeping() {
        rows("n1;p0+1;c0000;c0000;c0000;c0000;c0000;c0000;c0000;", "flip(0)=7 flip(1)=127 dead()=1 same()=21 heard()=1");
        rows("n4;p0+7;p1-4;p2-7;p3-5;l8; c2000;c4000;c5000;c4000;c2000;", "flip(0)=2 flip(1)=9");
        rows("n1;p0-1;c1000;c1000;", "flip(0)=1 flip(1)=1");
        rows("n1;c0000;", "flip(0)=-9 flip(1)=-9 dead()=0 same()=0");
        rows("n2;c0000;c2000;", "dead()=-9 same()=0");
        rows("n1;p0+1;c0000;c1000;", "dead()=1");
    }

    private static void stepping() {
        rows("n1;p0+0;", "margin()=1");
        rows("n1;p0+3;", "margin()=3");
        rows("n1;p0+4;", "margin()=-9");
        rows("n1;p0-2;", "margin()=3");
        rows("n1;p0-3;", "margin()=-9");
        rows("n2;p0+9;p1-8;", "margin()=1");
        rows("n2;p0+9;p1-9;", "margin()=1");
        rows("n8;p0+9;p1+9;p2-9;p3-6;", "margin()=3");
        // 9 steps up to no more than 9: behind three COURTS 8 and 9 are 1.
        rows("n1;p0+9;c0000;c0000;c0000;", "margin()=2");
        rows("n1;p0+9;c0000;c0000;c0000;c0000;", "margin()=-9");
        rows("n1;p0+6;c0000;c0000;c0000;", "margin()=2");
        rows("n1;p0+5;c0000;c0000;c0000;", "margin()=3");
        // (3, 0) would be (1, 0), then nothing; (2, 1) is (1, 1), then (0, 1).
        rows("n2;c0000;c0000;", "margin()=3");
        // (2, 0, 0) would be lost; (1, 1, 1) is not, and no two steps are enough.
        rows("n3;c0000;c0000;", "margin()=3");
        rows("n2;c0000;c0000;c0000;", "margin()=-9");
    }

    private static void anotherCase() {
        CHECK.rows("18", withRow("n1;p0+8;", 18), "beats()=1 count(5)=1");
        CHECK.rows("the same", withRow("n1;p0+9;", 18), "beats()=0");
        CHECK.rows("0", withRow("n1;p0-9;", 0), "beats()=0");
        CHECK.rows("0, behind a BENCH", withRow("n1;p0-8;c1000;", 0), "beats()=1");
        CHECK.rows("19", withRow("n1;", 19), "beats()=-3 count(5)=1");
        CHECK.rows("LENGTH", withRow("n2;p0+9;l1;c3000;", 10, 10), "beats()=1");
    }

    private static void againAndAgain() {
        rows("n2;p0-2;p1+8;c2000;", "again(0,0)=60 again(0,1)=2");
        rows("n4;p0+5;p1+5;p2+4;p3-5;c2000;", "again(0,0)=-9 again(0,1)=-9");
        rows("n1;c3000;", "again(0,0)=1 again(0,1)=1");
        rows("n1;p0+1;l0;c3000;", "again(0,0)=1 again(0,1)=1");
        rows("n1;p0+1;c3000;", "again(0,0)=2 again(0,1)=1");
        rows("n1;p0+1;c3100;", "again(0,0)=2 again(0,1)=2");
        rows("n8;p0+9;p1+9;p2+9;p3+9; p4+9;p5+9;p6+9;p7+9;c0000;", "again(0,0)=33 again(0,1)=1");
    }

    private static void eitherOrder() {
        rows("n2;p0+1;l1;c0000;c3900;", "commute(0,1)=0 commute(1,0)=0 commute(0,0)=-1 commute(0,2)=-1");
        // Two POINTS are one too many for the BOY, and none is behind the COURT.
        rows("n2;p0+1;p1+1;l1;c0000;c3900;", "commute(0,1)=0 commute(1,0)=0");
        rows("n2;p0+1;p1+1;l0;c0000;c3900;", "commute(0,1)=1 same()=0");
        rows("n1;p0+1;l0;c0000;c3900;", "commute(0,1)=1 commute(1,0)=1 same()=0");
        rows("n1;p0+5;c1000;c2000;c3500;", "commute(0,1)=1 commute(1,2)=1 same()=3");
    }

    private static void peaks() {
        rows("n1;p0+9;", "peak(0)=0 peak(1)=109");
        rows("n1;p0+9;c1000;c1000;", "peak(0)=0 peak(1)=109");
        rows("n1;p0-9;c1000;c1000;c1000;", "peak(0)=1 peak(1)=109");
        rows("n1;p0-9;c0000;c0000;c0000;c0000;c0000;c0000;c1000;", "peak(0)=4 peak(1)=100");
        rows("n8;p0-9;p1-9;p2-9;p3-9;l0; p4-9;p5-9;p6-9;p7-9;c3900;", "peak(0)=0 peak(1)=28");
    }

    // ---- THE IMAGE

    private static void images() {
        AppealsDown x = Check.of("n8;p7-9;c5999;c3001;s999;l8;");
        x.row(50);
        Check.feed(x, "u");
        CHECK.rows("THE IMAGE", x, "restore()=-3 image()=2 point(7,9)=-9 kind(0,0,0)=59 lowest(1,2,3)=3 restore()=2"
                + " down(0,7)=-9 court(0,0)=5 court(0,1)=9 court(0,2)=99 court(1,0)=3 court(1,2)=1 count(6)=0 count(5)=1"
                + " count(4)=1 count(13)=1 set(0,1)=8 set(1,0)=999 set(2,0)=8 row(49)=2 feed(59)=2 caseOf()=1 count(0)=1"
                + " restore()=2 count(1)=8 count(2)=999 count(3)=8 down(0,7)=-9 court(1,0)=3 count(5)=2 count(4)=0"
                + " count(13)=1 restore()=2 image()=2 'u;u;'=2 image()=0 restore()=0 'c0000;'=1 restore()=0 count(0)=0"
                + " count(1)=8 down(0,7)=-9");
        AppealsDown y = Check.of("p0+1;");
        CHECK.rows("it holds no other image", y, "image()=0 point(0,2)=1 image()=0 point(0,3)=2 restore()=0 down(0,0)=2"
                + " restore()=0 down(0,0)=2 back()=-3 point(0,4)=2 restore()=0 back()=-3 down(0,0)=2");
    }

    public static void main(String[] args) {
        courtsAndPoints();
        surest();
        courtsOneByOne();
        heldAndBehind();
        sendingBack();
        wrongLetters();
        notAsItMustBe();
        wholeCases();
        goingDown();
        goingRound();
        onAppeal();
        pressing();
        byTurns();
        casesOfThree();
        fitting();
        byChance();
        orders();
        judging();
        drawing();
        needing();
        losing();
        changingSigns();
        putting();
        sleeping();
        stepping();
        anotherCase();
        againAndAgain();
        eitherOrder();
        peaks();
        images();
        CHECK.end("TermsTest");
    }
}
