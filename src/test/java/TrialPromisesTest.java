/** Promises 18 to 27: curves, trims, folding, shaking, the best twist. */
public final class TrialPromisesTest {
    private static final Check CHECK = new Check();
    private static final long NO_FORCE = -1000000000000L;
    private static final long NO_BEST = -1000000000001L;

    // Ten for each slant up to 10, then ten less: each G ends one short of its aim, by the way it is come to.
    private static final String STALLS = "law t:-30-300,10 100,30-100;drag d:0 7,1 7;wing w:1 t d 0 deep 2000;";
    private static final String LEAPS = "law j:-5-100,0 0,1 999;drag d:0 7,1 7;wing w:9 j d 0 deep 2000;";
    private static final String FLAT = "law k:0 100,1 100;law n:0-100,1-100;drag d:0 7,1 7;";
    private static final String VALLEY = "law a:-90-900,90 900;drag v:-20 20,0 0,20 20;drag f:-90 270,90 90;";

    public static void main(String[] args) {
        promise18();
        promise19();
        promise20();
        promise21and22();
        promise23();
        promise24();
        promise25();
        promise26();
        bestIsBarred();
        promise27();
        CHECK.end("TrialPromisesTest");
    }

    private static void promise18() {
        CHECK.same("18 no text", new WingHouse().curve(0, 10, 0, 0), -101);
        WingHouse house = Check.houseOf(STALLS);
        CHECK.same("18 up", house.curve(0, 10, 8, 14), 11);
        CHECK.same("18 up to the top", house.curve(0, 10, -30, 10), -100);
        CHECK.same("18 up, whole", house.curve(0, 10, -30, 30), 11);
        CHECK.same("18 down", house.curve(0, 10, 14, 8), 13);
        CHECK.same("18 down from the top", house.curve(0, 10, 10, -30), -100);
        CHECK.same("18 one", house.curve(0, 10, 20, 20), -100);
        CHECK.same("18 alike is neither less nor more", Check.houseOf(FLAT + "wing w:1 k d 0;").curve(0, 10, -30, 30), -100);
        CHECK.same("18 nor down", Check.houseOf(FLAT + "wing w:1 k d 0;").curve(0, 10, 30, -30), -100);
        int[][] wrong = {{1, 10, 0, 0}, {-1, 10, 0, 0}, {0, 0, 0, 0}, {0, 41, 0, 0}, {0, 10, -31, 0}, {0, 10, 31, 0},
            {0, 10, 0, -31}, {0, 10, 0, 31}};
        for (int[] w : wrong) {
            CHECK.same("18 wrong", house.curve(w[0], w[1], w[2], w[3]), -101);
        }
        CHECK.same("18 nothing anew", house.lift(20), 0);
        house.gust(0, 30);
        CHECK.same("18 without gusts", house.curve(0, 10, 8, 14), 11);
        house.gust(0, 0);
        Check.read(house, "law t:-30-300,10 100,30-100;drag d:0 7,1 7;hinge h 5;wing w:1 t d 0 on h deep 2000;");
        house.hinge(0, 5);
        CHECK.same("18 with hinges", house.curve(0, 10, 0, 14), 6);
        Check.read(house, "law t:0 0,3 300,4 900,5-900,6 250,9 0;drag d:0 7,1 7;wing w:9 t d 0 deep 2000;");
        CHECK.same("18 unsettled ones are passed over", house.curve(0, 10, 0, 12), 8);
        CHECK.same("18 the last ahead", house.lift(5), 2701);
        CHECK.same("18 unsettled", house.lift(6), NO_FORCE);
        CHECK.same("18 unsettled", house.lift(7), NO_FORCE);
        CHECK.same("18 less", house.lift(8), 2251);
    }

    private static void promise19() {
        CHECK.same("19 none", new WingHouse().lift(0), NO_FORCE);
        WingHouse house = Check.houseOf(STALLS);
        CHECK.same("19 none yet", house.lift(0), NO_FORCE);
        house.curve(0, 10, 8, 14);
        long[] up = {NO_FORCE, 79, 89, 99, 91, 81, 71, 61, NO_FORCE};
        for (int s = 7; s <= 15; s++) {
            CHECK.same("19 up " + s, house.lift(s), up[s - 7]);
        }
        house.curve(0, 10, 14, 8);
        long[] down = {NO_FORCE, 81, 91, 99, 89, 79, 69, 59, NO_FORCE};
        for (int s = 7; s <= 15; s++) {
            CHECK.same("19 down " + s, house.lift(s), down[s - 7]);
        }
        for (int s : new int[] {31, -31, Integer.MIN_VALUE, Integer.MAX_VALUE}) {
            CHECK.same("19 no slant", house.lift(s), NO_FORCE);
        }
        Check.read(house, LEAPS);
        CHECK.same("19 stays with another text", house.lift(14), 59);
        CHECK.same("19 no stall", house.curve(0, 10, -5, 3), -100);
        CHECK.same("19 settled", house.lift(-5), -899);
        CHECK.same("19 unsettled", house.lift(1), NO_FORCE);
        CHECK.same("19 unsettled ones leave the G's", house.lift(-4), -721);
        house.curve(0, 10, 1, -4);
        CHECK.same("19 down from unsettled ones", house.lift(0), 0);
        house.use(0);
        house.curve(0, 20, 10, 10);
        CHECK.same("19 at a speed", house.lift(10), 99 * 4);
    }

    private static void promise20() {
        CHECK.same("20 no text", new WingHouse().trims(0, 10, 0), -1);
        WingHouse house = Check.houseOf(STALLS, LEAPS);
        house.use(0);
        CHECK.same("20 two", house.trims(0, 10, 50), 2);
        CHECK.same("20 one", house.trims(0, 10, -250), 1);
        CHECK.same("20 top", house.trims(0, 10, 99), 2);
        CHECK.same("20 too heavy", house.trims(0, 10, 100), 0);
        CHECK.same("20 below all", house.trims(0, 10, -299), 0);
        CHECK.same("20 the first", house.trims(0, 10, -298), 1);
        CHECK.same("20 greatest", house.trims(0, 10, Integer.MAX_VALUE), 0);
        CHECK.same("20 least", house.trims(0, 10, Integer.MIN_VALUE), 0);
        int[][] wrong = {{1, 10}, {-1, 10}, {0, 0}, {0, 41}};
        for (int[] w : wrong) {
            CHECK.same("20 wrong", house.trims(w[0], w[1], 0), -1);
        }
        house.use(1);
        CHECK.same("20 unsettled ones are left out", house.trims(0, 10, 1), 0);
        CHECK.same("20 settled ones", house.trims(0, 10, -750), 1);
    }

    private static void promise21and22() {
        CHECK.same("21 no text", new WingHouse().trim(0, 10, 0, 0), -101);
        CHECK.same("22 no text", new WingHouse().stays(0, 10, 0, 0), -1);
        WingHouse house = Check.houseOf(STALLS);
        CHECK.same("21 first", house.trim(0, 10, 50, 0), 6);
        CHECK.same("22 rising", house.stays(0, 10, 50, 0), 1);
        CHECK.same("21 second", house.trim(0, 10, 50, 1), 15);
        CHECK.same("22 falling", house.stays(0, 10, 50, 1), 0);
        CHECK.same("21 not below", house.trim(0, 10, 49, 0), 5);
        CHECK.same("21 not below", house.trim(0, 10, 49, 1), 16);
        CHECK.same("21 the first", house.trim(0, 10, -298, 0), -29);
        CHECK.same("21 faster", house.trim(0, 20, 50, 0), 2);
        int[] none = {-1, 2, Integer.MAX_VALUE, Integer.MIN_VALUE};
        for (int i : none) {
            CHECK.same("21 not so many", house.trim(0, 10, 50, i), -101);
            CHECK.same("22 not so many", house.stays(0, 10, 50, i), -1);
        }
        int[][] wrong = {{1, 10}, {-1, 10}, {0, 0}, {0, 41}};
        for (int[] w : wrong) {
            CHECK.same("21 wrong", house.trim(w[0], w[1], 50, 0), -101);
            CHECK.same("22 wrong", house.stays(w[0], w[1], 50, 0), -1);
        }
        house.curve(0, 10, 14, 8);
        CHECK.same("21 from rest, not as the curve", house.trim(0, 10, 90, 1), 11);
        house.gust(0, 9);
        CHECK.same("21 without gusts", house.trim(0, 10, 50, 0), 6);
    }

    private static void promise23() {
        CHECK.same("23 no text", new WingHouse().fold(0, 0), -1);
        WingHouse house = Check.houseOf(FLAT + "wing w:2 k d 0,2 k d 0 deep 2000 stiff 5;"
                + "wing x:2 n d 0,2 n d 0 deep 2000 stiff 5;wing y:2 k d 0 deep 2000;", LEAPS);
        house.use(0);
        CHECK.same("23 folds", house.fold(0, 0), 28);
        CHECK.same("23 folds down", house.fold(1, 0), 28);
        CHECK.same("23 without stiff", house.fold(2, 0), -2);
        CHECK.same("23 slant below", house.fold(0, -31), -1);
        CHECK.same("23 slant above", house.fold(0, 31), -1);
        CHECK.same("23 edges", house.fold(0, 30), 28);
        CHECK.same("23 edges", house.fold(0, -30), 28);
        CHECK.same("23 no wing", house.fold(3, 0), -1);
        CHECK.same("23 no wing below", house.fold(-1, 0), -1);
        Check.read(house, FLAT + "wing w:2 k d 0,2 k d 0 deep 2000 stiff 9;wing x:2 n d 0,2 n d 0 deep 2000 stiff 9;"
                + "wing y:2 k d 0,2 k d 0 deep 2000 stiff 10;wing z:2 k d 0 deep 2000 stiff 3;");
        house.solve(0, 37, 0, false);
        CHECK.same("23 the bend at 37", house.strip(0, 1, 2), 90);
        CHECK.same("23 90 is not above 90", house.fold(0, 0), 38);
        CHECK.same("23 nor -90 below", house.fold(1, 0), 38);
        CHECK.same("23 at the last speed", house.fold(2, 0), 40);
        CHECK.same("23 the first strip", house.fold(3, 0), 38);
        Check.read(house, FLAT + "wing w:2 k d 0,2 k d 0 deep 2000 stiff 8;wing x:2 n d 0,2 n d 0 deep 2000 stiff 8;");
        house.solve(0, 35, 0, false);
        CHECK.same("23 the bend at 35", house.strip(0, 1, 2), 91);
        CHECK.same("23 91 is above 90", house.fold(0, 0), 35);
        CHECK.same("23 and -91 below", house.fold(1, 0), 35);
        house.use(1);
        CHECK.same("23 unsettled", house.fold(0, 1), 1);
        CHECK.same("23 settled", house.fold(0, 0), -2);
        house.gust(0, 1);
        CHECK.same("23 without gusts", house.fold(0, 0), -2);
    }

    // Its slope pushes away from rest by 0.00036 * v * v, the spring back by 0.1.
    private static final String FALLS = "law n:-90 900,90-900;drag d:0 7,1 7;wing w:9 n d 0 deep 2000 mass 300 100 50 2000;"
            + "wing x:9 n d 0 deep 2000;wing y:9 n d 0 deep 2000 mass 300 2000 300 1;";

    private static void promise24() {
        CHECK.same("24 no text", new WingHouse().shakes(0, 10, 0), -1);
        WingHouse house = Check.houseOf(FALLS, LEAPS, LEAPS.replace("2000;", "2000 mass 1 1 1 1;"));
        house.use(0);
        CHECK.same("24 slow", house.shakes(0, 10, 0), 0);
        CHECK.same("24 fast", house.shakes(0, 40, 0), 1);
        CHECK.same("24 stiff and damped", house.shakes(2, 40, 0), 0);
        CHECK.same("24 no mass", house.shakes(1, 40, 0), -1);
        int[][] wrong = {{3, 10, 0}, {-1, 10, 0}, {0, 0, 0}, {0, 41, 0}, {0, 10, 31}, {0, 10, -31}};
        for (int[] w : wrong) {
            CHECK.same("24 wrong", house.shakes(w[0], w[1], w[2]), -1);
        }
        house.use(2);
        CHECK.same("24 unsettled", house.shakes(0, 10, 1), -2);
        house.use(1);
        CHECK.same("24 none comes ahead of unsettled", house.shakes(0, 10, 1), -1);
        swings();
    }

    /** The sums written out, at all speeds, for masses by a row of numbers. */
    private static void swings() {
        WingHouse house = Check.houseOf(FALLS);
        for (int v = 1; v <= 40; v++) {
            CHECK.same("24 at " + v, house.shakes(0, v, 0), swing(-180L * v * v, 300, 100, 50, 2000) > 1000 ? 1 : 0);
        }
        int[] shaking = new int[2];
        for (int i = 1; i <= 300; i++) {
            int b = 1 + i * 37 % (i % 3 == 0 ? 200 : 2000);
            int c = 1 + i * 11 % (i % 2 == 0 ? 20 : 2000);
            int d = 1 + i * 53 % 2000;
            boolean rises = i % 2 == 0;
            house = Check.houseOf((rises ? "law n:-90-900,90 900;" : "law n:-90 900,90-900;")
                    + "drag d:0 7,1 7;wing w:4 n d 0,5 n d 0 deep 2000 mass 9 " + b + " " + c + " " + d + ";");
            for (int v = 1 + i % 5; v <= 40; v += 5) {
                int due = swing((rises ? 180L : -180L) * v * v, 9, b, c, d) > 1000 ? 1 : 0;
                CHECK.same("24 mass " + b + " " + c + " " + d + " at " + v, house.shakes(0, v, 0), due);
                shaking[due]++;
            }
        }
        CHECK.yes("24 both come often", shaking[0] > 200 && shaking[1] > 200);
    }

    private static long swing(long push, long a, long b, long c, long d) {
        long p = 0, u = 0, w = 0, q = 1000, greatest = 0;
        for (int i = 1; i <= 120; i++) {
            long f = push * q / 1000000;
            u = Math.max(-1000000, Math.min(1000000, u + f - a * p / 1000 - c * u / 1000));
            w = Math.max(-1000000, Math.min(1000000, w - f * d / 1000 - b * q / 1000 - c * w / 1000));
            p = Math.max(-1000000, Math.min(1000000, p + u));
            q = Math.max(-1000000, Math.min(1000000, q + w));
            greatest = i > 80 ? Math.max(greatest, Math.abs(q)) : 0;
        }
        return greatest;
    }

    private static void promise25() {
        CHECK.same("25 no text", new WingHouse().shake(0, 0), -1);
        WingHouse house = Check.houseOf(FALLS);
        int least = 0;
        for (int v = 40; v >= 1; v--) {
            least = house.shakes(0, v, 0) == 1 ? v : least;
        }
        CHECK.yes("25 it begins between", least > 10 && least < 40);
        CHECK.same("25 the least", house.shake(0, 0), least);
        CHECK.same("25 at none", house.shake(2, 0), -2);
        CHECK.same("25 no mass", house.shake(1, 0), -1);
        CHECK.same("25 no wing", house.shake(3, 0), -1);
        CHECK.same("25 no wing below", house.shake(-1, 0), -1);
        CHECK.same("25 no slant", house.shake(0, 31), -1);
        CHECK.same("25 no slant", house.shake(0, -31), -1);
        Check.read(house, LEAPS.replace("2000;", "2000 mass 1 1 1 1;"));
        CHECK.same("25 unsettled at all", house.shake(0, 1), -2);
        Check.read(house, FALLS.replace("300 100 50 2000", "1 2000 2000 1"));
        CHECK.same("25 at the first speed", house.shake(0, 0), 1);
        int b = 1;
        while (swing(-180L * 1600, 1, b, 50, 2000) > 1000) {
            b++;
        }
        Check.read(house, FALLS.replace("300 100 50 2000", "1 " + (b - 1) + " 50 2000")
                .replace("300 2000 300 1", "1 " + b + " 50 2000"));
        CHECK.same("25 at the last speed", house.shake(0, 0), 40);
        CHECK.same("25 not even there", house.shake(2, 0), -2);
    }

    private static void promise26() {
        CHECK.same("26 no text", new WingHouse().best(0, 10, 0, 0, 0), NO_FORCE);
        WingHouse house = Check.houseOf(VALLEY + "wing w:1 a v 5 deep 2000;wing x:1 a f 29,1 a f-29 deep 2000;"
                + "wing y:1 a v 0,1 a v 0,1 a v 0,1 a v 0,1 a v 0 deep 2000;");
        CHECK.same("26 none told", house.best(0, 10, 0, 0, 0), 5);
        CHECK.same("26 least", house.best(0, 10, 0, 1, 0), 3);
        CHECK.same("26 of 3 .. 7", house.twist(0), 3);
        CHECK.same("26 lift not below 29", house.best(0, 10, 0, 1, 29), 3);
        CHECK.same("26 lift not below 30", house.best(0, 10, 0, 1, 30), 4);
        CHECK.same("26 its twist", house.twist(0), 4);
        CHECK.same("26 at a slant", house.best(0, 10, -4, 1, Integer.MIN_VALUE), 0);
        CHECK.same("26 its twist at a slant", house.twist(0), 4);
        CHECK.same("26 too much", house.best(0, 10, 0, 1, 70), NO_BEST);
        CHECK.same("26 none is remembered", house.twist(0), -1000);
        CHECK.same("26 greatest", house.best(0, 10, 0, 1, Integer.MAX_VALUE), NO_BEST);
        CHECK.same("26 not beyond 30", house.best(1, 10, 0, 1, -999), 150 + 209);
        CHECK.same("26 thirty", house.twist(0), 30);
        CHECK.same("26 not beyond -30", house.best(1, 10, 0, 2, -999), 151 + 207);
        CHECK.same("26 minus twenty-seven", house.twist(1), -27);
        CHECK.same("26 both", house.best(1, 10, 0, 3, -999), 150 + 207);
        CHECK.same("26 four of five", house.best(2, 10, 0, 30, -999), 0);
        CHECK.same("26 the last of 625", house.best(2, 10, 0, 27, 76), 8);
        CHECK.same("26 and not one more", house.best(2, 10, 0, 27, 77), NO_BEST);
        CHECK.same("26 four of five again", house.best(2, 10, 0, 30, -999), 0);
        int[][] wrong = {{3, 10, 0, 0}, {-1, 10, 0, 0}, {0, 0, 0, 0}, {0, 41, 0, 0}, {0, 10, 31, 0}, {0, 10, -31, 0},
            {0, 10, 0, 2}, {0, 10, 0, -1}, {0, 10, 0, Integer.MIN_VALUE}, {2, 10, 0, 31}, {2, 10, 0, 32}};
        for (int[] w : wrong) {
            CHECK.same("26 wrong", house.best(w[0], w[1], w[2], w[3], -999), NO_FORCE);
        }
        CHECK.same("26 nothing happens", house.twist(4), 0);
        house.gust(0, 9);
        CHECK.same("26 without gusts", house.best(0, 10, 0, 1, 0), 3);
        house.gust(0, 0);
        house.solve(0, 10, 0, false);
        CHECK.same("26 the text stays", house.strip(0, 0, 3), 5);
        Check.read(house, LEAPS);
        CHECK.same("26 unsettled", house.best(0, 10, 1, 0, -9999), NO_BEST);
        CHECK.same("26 only the settled", house.best(0, 10, 1, 1, -9999), 63);
        CHECK.same("26 the first of them", house.twist(0), -2);
    }

    private static void bestIsBarred() {
        // 10 * twist - 1 by each: from 7 back to 3 without rest it would be 31, and 70 with 4 and 3.
        WingHouse two = Check.houseOf(VALLEY + "wing w:1 a v 5,1 a v 5 deep 2000;");
        CHECK.same("26 each from rest", two.best(0, 10, 0, 3, 70), 8);
        CHECK.same("26 each from rest", two.twist(0), 3);
        CHECK.same("26 each from rest", two.twist(1), 5);
        WingHouse house = Check.houseOf(VALLEY + "wing w:1 a v 5 deep 2000;bar b if twist==4;");
        CHECK.same("26 barred by its own twist", house.best(0, 10, 0, 1, 30), 5);
        CHECK.same("26 past the barred one", house.twist(0), 5);
        Check.read(house, VALLEY + "wing w:1 a v 5 deep 2000;bar b if slant<20;");
        CHECK.same("26 all are barred", house.best(0, 10, 0, 1, 30), NO_BEST);
        CHECK.same("26 none told, barred", house.best(0, 10, 0, 0, 30), NO_BEST);
    }

    private static void promise27() {
        CHECK.same("27 none", new WingHouse().twist(0), -1000);
        WingHouse house = Check.houseOf("law a:-90-900,90 900;drag k:0 7,1 7;"
                + "wing w:1 a k 1,1 a k 1,1 a k 1 deep 2000;");
        CHECK.same("27 one drag for all", house.best(0, 10, 0, 5, -999), 21);
        CHECK.same("27 the first", house.twist(0), -1);
        CHECK.same("27 not told", house.twist(1), -1000);
        CHECK.same("27 the other", house.twist(2), -1);
        // 9 by the strip between, 10 * twist - 1 by each of the others: 48 asks for twists of 5 in all.
        house.best(0, 10, 0, 5, 48);
        CHECK.same("27 the least strip's is the least", house.twist(0), 2);
        CHECK.same("27 then the next one's", house.twist(2), 3);
        for (int i : new int[] {-1, 3, 10, Integer.MIN_VALUE, Integer.MAX_VALUE}) {
            CHECK.same("27 no such", house.twist(i), -1000);
        }
        Check.read(house, "");
        CHECK.same("27 stays with another text", house.twist(0), 2);
    }
}
