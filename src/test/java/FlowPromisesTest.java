/** Promises 10 to 17: wings solved in the open, over ground, behind a leader; what they are then. */
public final class FlowPromisesTest {
    private static final Check CHECK = new Check();
    private static final long NO_FORCE = -1000000000000L;

    // A flat law: each G comes from rest to one less than 900 times the width, whatever the angle.
    private static final String FLAT = "law k:0 900,1 900;drag d:0 7,1 7;";
    private static final String THREE = FLAT + "wing w:1 k d 0,2 k d 0,3 k d 0 deep 50;";
    // Its aim leaps at 1 and the air then turns it back: from 1 on it never settles.
    private static final String LEAPS = "law j:-5-100,0 0,1 999;drag d:0 7,1 7;wing w:9 j d 0 deep 2000;";

    public static void main(String[] args) {
        promise10();
        lastRound();
        ten();
        promise11();
        promise12();
        promise13();
        bends();
        promise14();
        promise15();
        promise16();
        conditions();
        promise17();
        CHECK.end("FlowPromisesTest");
    }

    private static void g(String what, WingHouse house, int... due) {
        for (int i = 0; i < due.length; i++) {
            CHECK.same(what + " G of " + i, house.strip(0, i, 0), due[i]);
        }
    }

    private static void row(String name, WingHouse house, int wing, int what, int... due) {
        for (int i = 0; i < due.length; i++) {
            CHECK.same(name + " of " + i, house.strip(wing, i, what), due[i]);
        }
    }

    private static void promise10() {
        CHECK.same("10 no text", new WingHouse().solve(0, 1, 0, false), -1);
        WingHouse house = Check.houseOf(THREE);
        CHECK.same("10 rounds", house.solve(0, 10, 5, false), 13);
        g("10", house, 899, 1799, 2699);
        CHECK.same("10 on", house.solve(0, 10, 5, true), 1);
        CHECK.same("10 from rest again", house.solve(0, 10, 5, false), 13);
        int[][] wrong = {{1, 10, 5}, {-1, 10, 5}, {4, 10, 5}, {0, 0, 5}, {0, 41, 5}, {0, 10, -31}, {0, 10, 31}};
        for (int[] w : wrong) {
            CHECK.same("10 wrong", house.solve(w[0], w[1], w[2], true), -1);
        }
        CHECK.same("10 nothing happened", house.strip(0, 0, 3), 5 - 4);
        CHECK.same("10 edges of v and s", house.solve(0, 1, -30, false), 13);
        CHECK.same("10 edges of v and s", house.solve(0, 40, 30, false), 13);

        house = Check.houseOf(LEAPS);
        CHECK.same("10 on from nothing", house.solve(0, 10, -5, true), 11);
        g("10 on from nothing", house, -899);
        CHECK.same("10 unsettled", house.solve(0, 10, 1, false), -2);
        CHECK.same("10 unsettled on", house.solve(0, 10, 1, true), -2);
        g("10 as last solved", house, -899);
        CHECK.same("10 its angle", house.strip(0, 0, 3), -5);
        CHECK.same("10 on", house.solve(0, 10, -4, true), 9);
        g("10 comes from the other side", house, -721);
        house.solve(0, 10, -4, false);
        g("10 from rest", house, -719);
        house.gust(0, -1);
        house.solve(0, 10, -4, false);
        g("10 with a gust", house, -899);
        Check.read(house, LEAPS);
        CHECK.same("10 in this text", house.solve(0, 10, -4, true), 11);
    }

    private static void lastRound() {
        // With the bend the aim runs away from G, some two in each round, for as long as the law rises.
        String slow = "drag d:0 7,1 7;wing w:1 a d-30 deep 2000 stiff 1 sweep-";
        WingHouse house = Check.houseOf("law a:-90 5,90 251;" + slow + "5;", "law a:-90 4,90 203;" + slow + "9;",
                "law a:-90 5,90 444;" + slow + "4;");
        house.gust(0, -30);
        house.use(0);
        CHECK.same("10 the 120th changes none", house.solve(0, 38, -30, false), 120);
        house.use(1);
        CHECK.same("10 the 120th changes one", house.solve(0, 32, -30, false), -2);
        CHECK.same("10 never", house.strip(0, 0, 0), -1000000);
        house.use(2);
        CHECK.same("10 the 119th changes none", house.solve(0, 32, -30, false), 119);
    }

    private static void ten() {
        String laws = "law z:0 0,1 0;law k:0 900,1 900;drag y:0 0,1 0;drag d:0 7,1 7;wing ";
        String strips = ":9 k d 0,1 k d 0,8 k d 0,2 k d 0,7 k d 0,3 k d 0,6 k d 0,4 k d 0,5 k d 0,9 k d 0 deep 50;";
        WingHouse house = Check.houseOf(laws + "w" + strips + "wing x" + strips);
        house.solve(0, 10, 5, false);
        row("10 of ten G", house, 0, 0, 8099, 899, 7199, 1799, 6299, 2699, 5399, 3599, 4499, 8099);
        row("10 of ten DOWN", house, 0, 1, 281, -187, 202, -139, 141, -84, 84, -29, -1, 240);
        CHECK.same("14 the last edge", house.edge(0, 10), -8099);
        house.follow(1, 10, 5, 0, 5);
        row("12 of ten at 5", house, 1, 1, 274, -197, 186, -171, 15, 197, -103, 173, -140, 381);
        house.follow(1, 10, 5, 0, -20);
        row("12 of ten at -20", house, 1, 1, 279, -189, 201, -140, 140, -85, 83, -30, -1, 240);
        house.follow(1, 10, 5, 0, 20);
        row("12 of ten at 20", house, 1, 1, 281, -187, 201, -140, 140, -85, 83, -30, -2, 238);
        house.ground(0, 10, 5, 1);
        row("11 of ten at 1", house, 0, 1, 267, -201, 187, -152, 128, -96, 70, -44, -20, 222);
        house.ground(0, 10, 5, 2);
        row("11 of ten at 2", house, 0, 1, 275, -195, 193, -148, 131, -94, 74, -39, -10, 233);
        house.ground(0, 10, 5, 5);
        row("11 of ten at 5", house, 0, 1, 279, -189, 199, -142, 138, -87, 81, -32, -4, 238);
    }

    private static void promise11() {
        CHECK.same("11 no text", new WingHouse().ground(0, 1, 0, 1), -1);
        WingHouse house = Check.houseOf(THREE);
        CHECK.same("11 rounds", house.ground(0, 10, 5, 1), 13);
        g("11", house, 899, 1799, 2699);
        row("11 DOWN", house, 0, 1, 0, 15, 73);
        house.ground(0, 10, 5, 20);
        row("11 high DOWN", house, 0, 1, 4, 23, 81);
        house.ground(0, 10, 5, 3);
        row("11 DOWN at 3", house, 0, 1, 3, 22, 80);
        int[][] wrong = {{1, 10, 5, 1}, {-1, 10, 5, 1}, {0, 0, 5, 1}, {0, 41, 5, 1}, {0, 10, -31, 1}, {0, 10, 31, 1},
            {0, 10, 5, 0}, {0, 10, 5, 21}, {0, 10, 5, -1}};
        for (int[] w : wrong) {
            CHECK.same("11 wrong", house.ground(w[0], w[1], w[2], w[3]), -1);
        }
        row("11 nothing happened", house, 0, 1, 3, 22, 80);
        house.solve(0, 10, 5, true);
        row("11 in the open", house, 0, 1, 4, 23, 81);

        house = Check.houseOf(LEAPS);
        house.solve(0, 10, -5, false);
        CHECK.same("11 from rest", house.ground(0, 10, -4, 20), 11);
        g("11 from rest", house, -719);
        CHECK.same("11 unsettled", house.ground(0, 10, 1, 20), -2);
        g("11 as last solved", house, -719);
        CHECK.same("11 on from it", house.solve(0, 10, -4, true), 1);
    }

    private static void promise12() {
        CHECK.same("12 no text", new WingHouse().follow(0, 1, 0, 1, 0), -1);
        String pair = THREE + "wing x:1 k d 0 deep 100;";
        WingHouse house = Check.houseOf(pair, pair);
        CHECK.same("12 leader never solved", house.follow(1, 10, 5, 0, 0), -1);
        house.use(0);
        house.solve(0, 10, 5, false);
        house.use(1);
        CHECK.same("12 not in this text", house.follow(1, 10, 5, 0, 0), -1);
        house.solve(0, 10, 5, false);
        CHECK.same("12 rounds", house.follow(1, 10, 5, 0, 0), 11);
        row("12 level DOWN", house, 1, 1, 17 + 2);
        house.follow(1, 10, 5, 0, 1);
        row("12 beside DOWN", house, 1, 1, 17 - 9);
        house.follow(1, 10, 5, 0, -2);
        row("12 behind the last DOWN", house, 1, 1, 17 + 40);
        row("12 ANGLE", house, 1, 3, 5 - 57);
        int[][] wrong = {{1, 10, 5, 1, 0}, {1, 10, 5, 2, 0}, {1, 10, 5, -1, 0}, {2, 10, 5, 0, 0}, {-1, 10, 5, 0, 0},
            {1, 0, 5, 0, 0}, {1, 41, 5, 0, 0}, {1, 10, 31, 0, 0}, {1, 10, -31, 0, 0}, {1, 10, 5, 0, 21},
            {1, 10, 5, 0, -21}};
        for (int[] w : wrong) {
            CHECK.same("12 wrong", house.follow(w[0], w[1], w[2], w[3], w[4]), -1);
        }
        row("12 nothing happened", house, 1, 1, 57);
        CHECK.same("12 far", house.follow(1, 10, 5, 0, 20), 11);
        CHECK.same("12 far", house.follow(1, 10, 5, 0, -20), 11);
        CHECK.same("12 the first behind the other", house.follow(0, 10, 5, 1, 0), 13);
        house.solve(1, 10, 5, false);
        row("12 in the open", house, 1, 1, 17);
    }

    private static void promise13() {
        CHECK.same("13 no text", new WingHouse().strip(0, 0, 0), -1000000);
        WingHouse house = Check.houseOf(THREE);
        CHECK.same("13 never", house.strip(0, 0, 0), -1000000);
        house.solve(0, 10, 5, false);
        row("13 G", house, 0, 0, 899, 1799, 2699, -1000000);
        row("13 DOWN", house, 0, 1, 4, 23, 81, -1000000);
        row("13 BEND", house, 0, 2, 0, 0, 0, -1000000);
        row("13 ANGLE", house, 0, 3, 1, -18, -76, -1000000);
        CHECK.same("13 below", house.strip(0, -1, 0), -1000000);
        CHECK.same("13 what below", house.strip(0, 0, -1), -1000000);
        CHECK.same("13 what above", house.strip(0, 0, 4), -1000000);
        CHECK.same("13 no wing", house.strip(1, 0, 0), -1000000);
        house.curve(0, 10, 0, 9);
        house.fold(0, 3);
        house.trims(0, 10, 9);
        house.best(0, 10, 8, 1, 0);
        row("13 as a curve is not one of these", house, 0, 3, 1, -18, -76);
        Check.read(house, THREE);
        CHECK.same("13 another text", house.strip(0, 0, 0), -1000000);
        house.use(0);
        row("13 it stays", house, 0, 0, 899, 1799, 2699);
    }

    private static void bends() {
        WingHouse house = Check.houseOf(FLAT + "wing w:1 k d 4,2 k d-3,3 k d 0 deep 2000 stiff 100 sweep 3;"
                + "wing x:1 k d 0,2 k d 0,3 k d 0 stiff 9 sweep 9 deep 50 deep 2000 sweep-3 stiff 100;");
        house.solve(0, 20, 1, false);
        row("13 bent BEND", house, 0, 2, 21, 39, 50);
        row("13 bent DOWN", house, 0, 1, 0, 0, 2);
        row("13 bent ANGLE", house, 0, 3, 1 + 4 - 6, 1 - 3 - 11, 1 - 2 - 15);
        house.solve(1, 20, 1, false);
        row("13 bent back ANGLE", house, 1, 3, 1 + 6, 1 + 11, 1 - 2 + 15);
        house.solve(1, 10, 1, false);
        row("13 less bent BEND", house, 1, 2, 5, 9, 12);
        row("13 less bent ANGLE", house, 1, 3, 1 + 1, 1 + 2, 1 - 2 + 3);
    }

    private static void promise14() {
        CHECK.same("14 no text", new WingHouse().edge(0, 0), -1000000);
        WingHouse house = Check.houseOf(THREE);
        CHECK.same("14 never", house.edge(0, 0), -1000000);
        house.solve(0, 10, 5, false);
        int[] due = {-1000000, 899, 900, 900, -2699, -1000000};
        for (int k = -1; k < 5; k++) {
            CHECK.same("14 edge " + k, house.edge(0, k), due[k + 1]);
        }
        CHECK.same("14 no wing", house.edge(1, 0), -1000000);
        CHECK.same("14 no wing below", house.edge(-1, 0), -1000000);
    }

    private static void promise15() {
        CHECK.same("15 no text", new WingHouse().force(0, 0), NO_FORCE);
        WingHouse house = Check.houseOf(THREE);
        CHECK.same("15 never", house.force(0, 0), NO_FORCE);
        house.solve(0, 10, 5, false);
        CHECK.same("15 LIFT", house.force(0, 0), 5397);
        CHECK.same("15 DRAG", house.force(0, 1), 6 * 7 + 263592 / 57);
        CHECK.same("15 TURN", house.force(0, 2), 3600);
        house.solve(0, 3, 5, false);
        CHECK.same("15 slow LIFT", house.force(0, 0), 485);
        CHECK.same("15 slow DRAG", house.force(0, 1), 419);
        CHECK.same("15 slow TURN", house.force(0, 2), 324);
        CHECK.same("15 what below", house.force(0, -1), NO_FORCE);
        CHECK.same("15 what above", house.force(0, 3), NO_FORCE);
        CHECK.same("15 no wing", house.force(1, 0), NO_FORCE);

        house = Check.houseOf(LEAPS);
        house.solve(0, 7, -5, false);
        house.solve(0, 40, 1, false);
        CHECK.same("15 as last solved LIFT", house.force(0, 0), -899 * 49 / 100);
        CHECK.same("15 as last solved DRAG", house.force(0, 1), 63 * 49 / 100);
        CHECK.same("15 of one strip TURN", house.force(0, 2), 0);
    }

    private static void promise16() {
        CHECK.same("16 no text", new WingHouse().barred(0), -1);
        WingHouse house = Check.houseOf(THREE + "bar p if at==1;bar q if at==1;bar r if at==2;");
        CHECK.same("16 never", house.barred(0), -1);
        house.solve(0, 10, 5, false);
        CHECK.same("16 the first", house.barred(0), 0);
        CHECK.same("16 no wing", house.barred(1), -1);
        house = Check.houseOf(THREE + "bar p if at==2;bar q if at==1;bar r if at==1;");
        house.solve(0, 10, 5, false);
        CHECK.same("16 by strips, then by bars", house.barred(0), 1);
        house = Check.houseOf(THREE);
        house.solve(0, 10, 5, false);
        CHECK.same("16 by none", house.barred(0), -2);
        house = Check.houseOf(LEAPS + "bar p if 10<=speed;bar q if slant==0-5;");
        house.solve(0, 9, -5, false);
        CHECK.same("16 as last solved", house.barred(0), 1);
        house.solve(0, 10, 1, false);
        CHECK.same("16 still, as it was unsettled", house.barred(0), 1);
        house.solve(0, 10, -5, false);
        CHECK.same("16 faster", house.barred(0), 0);
    }

    /** The strip at which a condition holds first, or -2. */
    private static void holds(String condition, int due) {
        WingHouse house = Check.houseOf(FLAT
                + "wing w:1 k d 4,2 k d-3,3 k d 0 deep 2000 stiff 100 sweep 3;bar b if " + condition + ";");
        house.solve(0, 20, 1, false);
        CHECK.same("17 " + condition, house.where(0), due);
        CHECK.same("16 " + condition, house.barred(0), due < 0 ? due : 0);
    }

    private static void conditions() {
        holds("slant==0-13", 1);
        holds("lift==2699", 2);
        holds("width==2", 1);
        holds("twist==0-3", 1);
        holds("at==2", 2);
        holds("speed==20", 0);
        holds("bend==50", 2);
        holds("down==2", 2);
        holds("1+2*3==7", 0);
        holds("(1+2)*3==9", 0);
        holds("7-2-1==4", 0);
        holds("8/4/2==1", 0);
        holds("8/2*4==16", 0);
        holds("2*7/4==3", 0);
        holds("(0-7)/2+3==0", 0);
        holds("2*(3+(4-1)*2)-1==17", 0);
        holds("1<1", -2);
        holds("1<2", 0);
        holds("2<=1", -2);
        holds("1<=1", 0);
        holds("1!=1", -2);
        holds("1!=2", 0);
        holds("not 1==1", -2);
        holds("not not 1==1", 0);
        holds("not not not 1==1", -2);
        holds("not not not 1==2", 0);
        holds("1==2 and 1==1", -2);
        holds("1==1 or 1==1 and 1==2", 0);
        holds("1==2 and 1==1 or at==1", 1);
        holds("1==2 or at==1 and 1==1 or 1==2", 1);
        holds("not 1==2 and not at==0", 1);
        holds("1/0==1/0", -2);
        holds("1/0!=1", -2);
        holds("not 1/0==1", 0);
        holds("not not 1/0==1", -2);
        holds("0*(1/(1-1))==0", -2);
        holds("1==5/at", -2);
        holds("5==5/at", 1);
        holds("not 0<5/at", 0);
        holds("1/0==1 or 1==1", 0);
        holds("1==1 and 2/(2-2)<1 or at==2", 2);
        holds("511==1+2*(1+2*(1+2*(1+2*(1+2*(1+2*(1+2*3))))))", 0);
        holds("1+2*(1+2*(1+2*(1+2*(1+2*(1+2*(1+2*3))))))<511", -2);
        holds("8192*8192*64==0", 0);
        holds("8192*8192*32<0", 0);
        holds("8192*8192*32/(0-1)<0", 0);
        holds("8192*8192*32-1<0", -2);
    }

    private static void promise17() {
        CHECK.same("17 no text", new WingHouse().where(0), -1);
        WingHouse house = Check.houseOf(THREE + "bar p if at==2;bar q if at==1;");
        CHECK.same("17 never", house.where(0), -1);
        house.solve(0, 10, 5, false);
        CHECK.same("17 the first strip", house.where(0), 1);
        CHECK.same("17 no wing", house.where(1), -1);
        CHECK.same("17 no wing below", house.where(-1), -1);
        Check.read(house, THREE);
        CHECK.same("17 never in this text", house.where(0), -1);
        house.solve(0, 10, 5, false);
        CHECK.same("17 nowhere", house.where(0), -2);
    }
}
