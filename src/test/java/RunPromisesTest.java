/** Promises 28 to 33: runs and their voids, what they bar, the next run. */
public final class RunPromisesTest {
    private static final Check CHECK = new Check();

    private static final String TEN = "law a:-90-900,90 900;drag d:0 7,1 7;hinge h 9;wing w:1 a d 0 on h deep 2000;";
    private static final String FIVE = "law a:-90-450,90 450;drag d:0 7,1 7;wing w:1 a d 0 deep 2000;";
    private static final String LEAPS = "law j:-5-100,0 0,1 999;drag d:0 7,1 7;wing w:9 j d 0 deep 2000;";

    public static void main(String[] args) {
        promise28();
        promise29();
        promise30();
        promise31();
        promise32();
        promise33();
        CHECK.end("RunPromisesTest");
    }

    private static void promise28() {
        WingHouse house = new WingHouse();
        int[][] wrong = {{-1, 1, 0, 0, 0}, {4, 1, 0, 0, 0}, {0, 0, 0, 0, 0}, {0, 41, 0, 0, 0}, {0, 1, -31, 0, 0},
            {0, 1, 31, 0, 0}, {0, 1, 0, -1000001, 0}, {0, 1, 0, 1000001, 0}, {0, 1, 0, 0, -1}, {0, 1, 0, 0, 501}};
        for (int[] w : wrong) {
            CHECK.same("28 wrong", house.run(w[0], w[1], w[2], w[3], w[4]), -1);
        }
        CHECK.same("28 nothing happened", house.count(2), 0);
        CHECK.same("28 least", house.run(0, 1, -30, -1000000, 0), 0);
        CHECK.same("28 most", house.run(3, 40, 30, 1000000, 500), 1);
        CHECK.same("28 a void between", house.annul(0), 2);
        for (int i = 3; i < 60; i++) {
            CHECK.same("28 more", house.run(0, 1, 0, 0, 0), i);
        }
        CHECK.same("28 full", house.run(0, 1, 0, 0, 0), -1);
        CHECK.same("28 all", house.count(2), 60);
        Check.read(house, TEN);
        CHECK.same("28 they stay", house.right(1), 666666);
    }

    private static void promise29() {
        WingHouse house = new WingHouse();
        CHECK.same("29 none", house.annul(0), -1);
        house.run(0, 10, 5, 0, 0);
        house.run(0, 10, 5, 0, 0);
        CHECK.same("29 first", house.annul(1), 2);
        CHECK.same("29 once more", house.annul(1), 3);
        CHECK.same("29 a void is no run", house.annul(2), -1);
        CHECK.same("29 below", house.annul(-1), -1);
        CHECK.same("29 beyond", house.annul(4), -1);
        CHECK.same("29 greatest", house.annul(Integer.MAX_VALUE), -1);
        CHECK.same("29 rows", house.count(2), 4);
        for (int i = 4; i < 60; i++) {
            CHECK.same("29 more", house.annul(0), i);
        }
        CHECK.same("29 full", house.annul(0), -1);
        CHECK.same("29 full of both", house.run(0, 1, 0, 0, 0), -1);
    }

    private static void promise30() {
        WingHouse house = new WingHouse();
        CHECK.same("30 none", house.right(0), -1000000000);
        int[][] due = {{300, 200, 250}, {-300, 200, -250}, {7, 500, 4}, {-7, 500, -4}, {1000000, 0, 1000000},
            {-1000000, 500, -666666}, {1, 1, 0}};
        for (int i = 0; i < due.length; i++) {
            house.run(0, 1, 0, due[i][0], due[i][1]);
            CHECK.same("30 right " + i, house.right(i), due[i][2]);
        }
        house.annul(0);
        CHECK.same("30 a void", house.right(7), -1000000000);
        CHECK.same("30 one that is void", house.right(0), 250);
        CHECK.same("30 below", house.right(-1), -1000000000);
        CHECK.same("30 beyond", house.right(8), -1000000000);
    }

    /** Whether the text TEN, whose LIFT is 99 there, fits a run. */
    private static void fit(int lift, int wall, int due) {
        WingHouse house = Check.houseOf(TEN);
        house.run(0, 10, 10, lift, wall);
        CHECK.same("31 " + lift + " " + wall, house.fits(0, 0), due);
    }

    private static void promise31() {
        CHECK.same("31 no text", new WingHouse().fits(0, 0), -1);
        fit(99, 0, 1);
        fit(71, 0, 0);
        fit(72, 0, 1);
        fit(132, 0, 1);
        fit(133, 0, 0);
        fit(198, 500, 1);
        fit(200, 500, 0);
        fit(-99, 0, 0);
        WingHouse house = Check.houseOf(TEN, LEAPS);
        house.run(0, 10, -10, -132, 0);
        CHECK.same("31 without sign", house.fits(0, 0), 1);
        house.run(0, 10, -10, -133, 0);
        CHECK.same("31 without sign", house.fits(0, 1), 0);
        house.run(1, 10, 0, 0, 0);
        CHECK.same("31 it has not that wing", house.fits(0, 2), 0);
        house.run(0, 10, 1, 0, 0);
        CHECK.same("31 unsettled", house.fits(1, 3), 0);
        CHECK.same("31 settled", house.fits(0, 3), 1);
        CHECK.same("31 no run", house.fits(0, 4), -1);
        CHECK.same("31 no run below", house.fits(0, -1), -1);
        CHECK.same("31 no text", house.fits(2, 0), -1);
        CHECK.same("31 no text below", house.fits(-1, 0), -1);
        house.annul(0);
        CHECK.same("31 a void", house.fits(0, 4), -1);
        CHECK.same("31 one that is void", house.fits(0, 0), 1);
        house.use(0);
        house.hinge(0, 9);
        house.gust(0, 9);
        CHECK.same("31 hinges 0, no gusts", house.fits(0, 0), 1);
        house.use(1);
        CHECK.same("31 whatever is at hand", house.fits(0, 1), 0);
    }

    private static void promise32() {
        CHECK.same("32 no text", new WingHouse().out(0, 0), -1);
        WingHouse house = Check.houseOf(TEN, FIVE);
        CHECK.same("32 by none", house.out(0, 0), -2);
        house.run(0, 10, 10, 99, 0);
        house.run(0, 10, 10, 49, 0);
        house.annul(0);
        house.annul(1);
        int[][] due = {{-2, -2}, {-2, 0}, {1, 0}, {1, -2}, {-2, -2}};
        for (int n = 0; n < due.length; n++) {
            CHECK.same("32 known by " + n, house.out(0, n), due[n][0]);
            CHECK.same("32 known by " + n, house.out(1, n), due[n][1]);
        }
        CHECK.same("32 n beyond", house.out(0, 5), -1);
        CHECK.same("32 n below", house.out(0, -1), -1);
        CHECK.same("32 no text", house.out(2, 0), -1);
        CHECK.same("32 no text below", house.out(-1, 0), -1);
        house.run(0, 10, 10, 49, 0);
        CHECK.same("32 told anew", house.out(0, 5), 4);
    }

    private static void promise33() {
        WingHouse house = new WingHouse();
        CHECK.same("33 no text", house.next(0, 0), -2);
        CHECK.same("33 wing below", house.next(-1, 0), -10000);
        CHECK.same("33 wing above", house.next(4, 0), -10000);
        CHECK.same("33 n beyond", house.next(0, 1), -10000);
        CHECK.same("33 n below", house.next(0, -1), -10000);
        Check.read(house, TEN);
        CHECK.same("33 one text", house.next(0, 0), -2);
        Check.read(house, FIVE);
        CHECK.same("33 the least slant of the furthest", house.next(0, 0), 3980);
        CHECK.same("33 none has that wing", house.next(1, 0), -2);
        house.run(0, 10, 10, 99, 0);
        house.annul(0);
        CHECK.same("33 one is out", house.next(0, 1), -2);
        CHECK.same("33 not known", house.next(0, 0), 3980);
        CHECK.same("33 void", house.next(0, 2), 3980);
        house.use(0);
        house.hinge(0, 9);
        CHECK.same("33 hinges 0", house.next(0, 0), 3980);
        Check.read(house, "law a:-90-450,0 0,10 400,20 200;drag d:0 7,1 7;wing w:1 a d 0 deep 2000;");
        CHECK.same("33 three", house.next(0, 0), 4010);
        parts();
    }

    private static void parts() {
        // The second never settles at 5; from 10 on its aim stays where it leaps to.
        WingHouse house = Check.houseOf(TEN, LEAPS);
        CHECK.same("33 where both tell a lift", house.next(0, 0), 4010);
        // Alike but on one side.
        String side = "drag d:0 7,1 7;wing w:1 a d 0 deep 2000;";
        house = Check.houseOf("law a:0 0,90 450;" + side, "law a:0 0,90 900;" + side, "law a:0 0,90 500;" + side);
        CHECK.same("33 the last place of all", house.next(0, 0), 4020);
        house = Check.houseOf("law a:0 0,90 900;" + side, "law a:0 0,90 450;" + side, "law a:0 0,90 500;" + side);
        CHECK.same("33 whichever comes first", house.next(0, 0), 4020);
        house = Check.houseOf("law a:0 0,15 900,16 0;" + side, "law a:0 0,90 90;" + side);
        CHECK.same("33 by fives", house.next(0, 0), 4015);
        house = Check.houseOf("law a:0 0,15 900,16 0;" + side, "law a:0 0,90 450;" + side, "law a:0 0,90 900;" + side);
        house.run(0, 10, 10, 49, 0);
        CHECK.same("33 the first and the last are out", house.next(0, 1), -2);
        CHECK.same("33 not known", house.next(0, 0), 4015);
        house = Check.houseOf("law a:0 0,15 900,16 0;" + side, "law a:0 0,90 450;" + side, "law a:0 0,90 540;" + side);
        house.run(0, 10, 15, 80, 0);
        CHECK.same("33 the first is out", house.next(0, 1), 4020);
        // Both alike: the least speed, then slant.
        house = Check.houseOf(TEN, TEN);
        CHECK.same("33 all are as near", house.next(0, 0), 980);
        // Places at which but one tells a lift do not count, even if all others are as near.
        String wild = "law j:-90 0,-60 0,-59 999;drag d:0 7,1 7;wing w:9 j d 0 deep 50;";
        house = Check.houseOf(wild);
        for (int s = -20; s <= 20; s += 5) {
            CHECK.same("33 it is wild at " + s, house.solve(0, 10, s, false), -2);
        }
        Check.read(house, TEN);
        CHECK.same("33 fewer than two at each", house.next(0, 0), -2);
        Check.read(house, FIVE);
        CHECK.same("33 two of three", house.next(0, 0), 3980);
    }
}
