/** Part III by its sentences: the first and the last of curves, trims, speeds, swings and twists. */
public final class TrialEdgesTest {
    private static final Check CHECK = new Check();
    private static final long NO_FORCE = -1000000000000L;
    private static final long NO_BEST = -1000000000001L;
    // It never settles at the slants 1 .. 8: its aim leaps at 1, and 8990 turn the air down by 8.
    private static final String LEAPS = "law j:-5-100,0 0,1 999;drag d:0 7,1 7;wing w:9 j d 0 deep 2000";
    private static final int LEAST = Integer.MIN_VALUE;
    private static final int MOST = Integer.MAX_VALUE;

    public static void main(String[] args) {
        oneByOne();
        stallByLift();
        stallPlaces();
        unsettledOfCurves();
        remembered();
        withoutGusts();
        trimsAtWeights();
        trimsAtBothEnds();
        manyTrims();
        trimsBesideUnsettled();
        folds();
        shakesAbove();
        lastForty();
        shakeAtSpeeds();
        twistsWithinReach();
        liftNotBelow();
        toldStrips();
        firstOfTheLeast();
        bestOfNone();
        theTextStays();
        CHECK.end("TrialEdgesTest");
    }

    /** One strip of the width 1 that is hardly turned down: its LIFT at the speed 10 is its G. */
    private static WingHouse house(String points) {
        return Check.houseOf("law k:" + points + ";drag d:0 7,1 7;wing w:1 k d 0 deep 2000;");
    }

    private static void lifts(WingHouse house, int from, long... due) {
        for (int i = 0; i < due.length; i++) {
            CHECK.same("lift at " + (from + i), house.lift(from + i), due[i]);
        }
    }

    private static void none(WingHouse house, int from, int to) {
        for (int s = from; s <= to; s++) {
            CHECK.same("no lift at " + s, house.lift(s), NO_FORCE);
        }
    }

    // ---- "A CURVE of a WING from SLANT a to b (one by one, up or down): SOLVED from rest at a, then on" ----

    private static void oneByOne() {
        WingHouse house = house("-30-300,30 300");
        CHECK.same("whole, up", house.curve(0, 10, -30, 30), -100);
        for (int s = -30; s <= 30; s++) {
            CHECK.same("up at " + s, house.lift(s), s <= -30 ? -299 : 10 * s - 1);
        }
        CHECK.same("whole, down", house.curve(0, 10, 30, -30), -100);
        for (int s = -30; s <= 30; s++) {
            CHECK.same("down at " + s, house.lift(s), s >= 30 ? 299 : 10 * s + 1);
        }
        CHECK.same("below", house.lift(-31), NO_FORCE);
        CHECK.same("above", house.lift(31), NO_FORCE);
        for (int s : new int[] {-30, -29, 0, 29, 30}) {
            CHECK.same("one place", house.curve(0, 10, s, s), -100);
            for (int t = -30; t <= 30; t++) {
                CHECK.same("of one place " + s, house.lift(t), t == s ? 10 * s - Integer.signum(s) : NO_FORCE);
            }
        }
        house.curve(0, 10, 29, 30);
        lifts(house, 28, NO_FORCE, 289, 299, NO_FORCE);
        house.curve(0, 10, -29, -30);
        lifts(house, -31, NO_FORCE, -299, -289, NO_FORCE);
        // From rest at the first of each curve, not from where the last one ended.
        house.curve(0, 10, 20, 10);
        lifts(house, 10, 101);
        house.curve(0, 10, 10, 10);
        lifts(house, 10, 99);
        house.solve(0, 10, 20, false);
        house.curve(0, 10, 10, 10);
        lifts(house, 10, 99);
    }

    // ---- "STALL: .. at which LIFT is less (up), more (down) than at the last one ahead" ----

    private static void stallByLift() {
        // From 99 an aim of 98 changes nothing, one of 97 takes 1.
        CHECK.same("alike", house("0 100,1 98").curve(0, 10, 0, 1), -100);
        CHECK.same("less by 1", house("0 100,1 97").curve(0, 10, 0, 1), 1);
        CHECK.same("more", house("0 100,1 102").curve(0, 10, 0, 1), -100);
        // From 96 an aim of 97 changes nothing, one of 98 gives 1.
        CHECK.same("alike, down", house("0 97,1 97").curve(0, 10, 1, 0), -100);
        CHECK.same("more by 1, down", house("0 98,1 97").curve(0, 10, 1, 0), 0);
        CHECK.same("less, down", house("0 90,1 97").curve(0, 10, 1, 0), -100);
        // G is less but LIFT is not: at the speed 1 both are 0, and 100 are 1.
        CHECK.same("LIFT, not G", house("0 100,1 90").curve(0, 1, 0, 1), -100);
        CHECK.same("LIFT", house("0 101,1 90").curve(0, 1, 0, 1), 1);
        CHECK.same("LIFT below 0", house("0-90,1-101").curve(0, 1, 0, 1), 1);
        CHECK.same("LIFT below 0, not G", house("0-90,1-100").curve(0, 1, 0, 1), -100);
    }

    private static void stallPlaces() {
        CHECK.same("at the second place", house("-30 100,-29 50,30 900").curve(0, 10, -30, 30), -29);
        CHECK.same("at the last place", house("-30 100,29 700,30 600").curve(0, 10, -30, 30), 30);
        CHECK.same("one short of it", house("-30 100,29 700,30 600").curve(0, 10, -30, 29), -100);
        CHECK.same("down at the second place", house("-30-900,29 50,30 0").curve(0, 10, 30, -30), 29);
        CHECK.same("down at the last place", house("-30 600,-29 0,30 900").curve(0, 10, 30, -30), -30);
        CHECK.same("down one short of it", house("-30 600,-29 0,30 900").curve(0, 10, 30, -29), -100);
        // The first of two, by the way it is come to.
        String two = "-30 0,-10 200,0 100,10 400,20 300";
        CHECK.same("the first up", house(two).curve(0, 10, -30, 30), -9);
        CHECK.same("the first down", house(two).curve(0, 10, 30, -30), 19);
        CHECK.same("between them up", house(two).curve(0, 10, 0, 30), 11);
        CHECK.same("between them down", house(two).curve(0, 10, 10, -30), -1);
        CHECK.same("flat to the end", house(two).curve(0, 10, 20, 30), -100);
    }

    // ---- "an UNSETTLED one leaves the G's"; "(UNSETTLED ones are passed over)" ----

    private static void unsettledOfCurves() {
        WingHouse house = Check.houseOf(LEAPS + ";");
        for (int s = -6; s <= 12; s++) {
            int rounds = house.solve(0, 10, s, false);
            CHECK.yes("settled from rest at " + s, s >= 1 && s <= 8 ? rounds == -2 : rounds > 0);
        }
        CHECK.same("over a gap", house.curve(0, 10, -1, 10), -100);
        lifts(house, -1, -179, -1);
        none(house, 1, 8);
        lifts(house, 9, 8990, 8990, NO_FORCE);
        CHECK.same("to a gap", house.curve(0, 10, 0, 4), -100);
        lifts(house, 0, 0, NO_FORCE, NO_FORCE, NO_FORCE, NO_FORCE, NO_FORCE);
        CHECK.same("from a gap it is from rest", house.curve(0, 10, 8, 9), -100);
        lifts(house, 8, NO_FORCE, 8990);
        CHECK.same("in a gap", house.curve(0, 10, 1, 8), -100);
        none(house, -30, 30);
        CHECK.same("one in a gap", house.curve(0, 10, 5, 5), -100);
        CHECK.same("down from a gap", house.curve(0, 10, 3, -1), -100);
        lifts(house, -1, -179, 0, NO_FORCE, NO_FORCE, NO_FORCE);
        // Down over the gap LIFT falls from 8990: from there G comes to one more than its aim.
        CHECK.same("down over a gap", house.curve(0, 10, 10, -2), -100);
        lifts(house, -2, -359, -179, 1, NO_FORCE);
        // A stall may lie behind the gap, and is not seen against an unsettled one.
        house = Check.houseOf("law t:0 0,3 300,4 900,5-900,6 250,9 0;drag d:0 7,1 7;wing w:9 t d 0 deep 2000;");
        CHECK.same("a stall behind a gap", house.curve(0, 10, 0, 12), 8);
        CHECK.same("none against unsettled ones alone", house.curve(0, 10, 6, 8), -100);
        CHECK.same("one short of it", house.curve(0, 10, 0, 7), -100);
    }

    // ---- "lift: UNSETTLED, it has no such SLANT, none is remembered"; "nothing is remembered anew" ----

    private static void remembered() {
        WingHouse house = Check.houseOf("law k:-30-300,30 300;drag d:0 7,1 7;wing w:1 k d 0 deep 2000;", LEAPS + ";");
        for (int s = -31; s <= 31; s++) {
            CHECK.same("none remembered", house.lift(s), NO_FORCE);
        }
        house.curve(0, 10, -2, 2);
        house.use(0);
        lifts(house, -3, NO_FORCE, -359, -181, -1, NO_FORCE);
        house.curve(0, 10, 1, 2);
        lifts(house, 0, NO_FORCE, 9, 19, NO_FORCE);
        int[][] wrong = {{1, 10, 0, 0}, {-1, 10, 0, 0}, {0, 0, 0, 0}, {0, 41, 0, 0}, {0, 10, -31, 0}, {0, 10, 31, 0},
            {0, 10, 0, -31}, {0, 10, 0, 31}, {0, 10, LEAST, MOST}, {0, 10, MOST, LEAST}, {MOST, 10, 0, 0}};
        for (int[] w : wrong) {
            CHECK.same("no such", house.curve(w[0], w[1], w[2], w[3]), -101);
            lifts(house, 0, NO_FORCE, 9, 19, NO_FORCE);
        }
        house.trims(0, 10, 50);
        house.fold(0, 5);
        house.solve(0, 10, 5, false);
        house.best(0, 10, 5, 1, 0);
        lifts(house, 0, NO_FORCE, 9, 19, NO_FORCE);
        house.use(1);
        lifts(house, 0, NO_FORCE, 9, 19, NO_FORCE);
        Check.read(house, "law");
        Check.read(house, "");
        lifts(house, 0, NO_FORCE, 9, 19, NO_FORCE);
        house.use(1);
        house.curve(0, 10, 1, 8);
        lifts(house, 0, NO_FORCE, NO_FORCE, NO_FORCE, NO_FORCE);
        // At the least and the greatest speed.
        house.use(0);
        house.curve(0, 1, 30, 30);
        lifts(house, 30, 299 / 100);
        house.curve(0, 40, 30, 30);
        lifts(house, 30, 299 * 16);
    }

    // ---- "Without GROUND, LEADER, GUST"; all of the others "as of a CURVE" ----

    private static void withoutGusts() {
        String text = "law k:-30-300,0 0,15 300,30 0;drag d:-20 20,0 0,20 20;hinge h 9;"
                + "wing w:1 k d 0 on h deep 2000 stiff 10 mass 300 100 50 2000;wing v:9 k d 0 deep 2000;";
        WingHouse still = Check.houseOf(text);
        WingHouse gusty = Check.houseOf(text);
        for (int i = 0; i < 10; i++) {
            gusty.gust(i, 30);
        }
        gusty.solve(1, 40, 9, false);
        gusty.ground(0, 40, 9, 1);
        gusty.follow(0, 40, 9, 1, 0);
        for (int turned = 0; turned < 2; turned++) {
            CHECK.same("curve", gusty.curve(0, 10, 5, 20), turned == 0 ? 16 : 11);
            CHECK.same("curve", still.curve(0, 10, 5, 20), turned == 0 ? 16 : 11);
            CHECK.same("lift", gusty.lift(7), still.lift(7));
            CHECK.same("trim", gusty.trim(0, 10, 50, 0), turned == 0 ? 3 : -2);
            CHECK.same("falling", gusty.trim(0, 10, 50, 1), still.trim(0, 10, 50, 1));
            CHECK.same("fold", gusty.fold(0, 10), still.fold(0, 10));
            CHECK.same("shakes", gusty.shakes(0, 40, 20), still.shakes(0, 40, 20));
            CHECK.same("shake", gusty.shake(0, 20), still.shake(0, 20));
            CHECK.same("best", gusty.best(0, 10, 3, 1, 0), still.best(0, 10, 3, 1, 0));
            CHECK.same("twist", gusty.twist(0), still.twist(0));
            gusty.hinge(0, 5);
            still.hinge(0, 5);
        }
    }

    // ---- "LIFT at s not below it and at s - 1 below it (RISING), or at s below it and at s - 1 not (FALLING)" ----

    private static void trim(WingHouse house, int v, int weight, int... slantsAndStays) {
        CHECK.same("trims for " + weight, house.trims(0, v, weight), slantsAndStays.length / 2);
        for (int i = 0; i < slantsAndStays.length / 2; i++) {
            CHECK.same("trim " + i + " for " + weight, house.trim(0, v, weight, i), slantsAndStays[2 * i]);
            CHECK.same("stays " + i + " for " + weight, house.stays(0, v, weight, i), slantsAndStays[2 * i + 1]);
        }
        int many = slantsAndStays.length / 2;
        for (int none : new int[] {-1, many, many + 1, 60, 61, 62, LEAST, MOST}) {
            CHECK.same("no trim " + none + " for " + weight, house.trim(0, v, weight, none), -101);
            CHECK.same("stays at none " + none + " for " + weight, house.stays(0, v, weight, none), -1);
        }
    }

    private static void trimsAtWeights() {
        // From rest: 10 * s less 1 up to 10, then down again.
        WingHouse house = house("-30-300,10 100,30-100");
        trim(house, 10, 98, 10, 1, 11, 0);
        trim(house, 10, 99, 10, 1, 11, 0);
        trim(house, 10, 100);
        trim(house, 10, 89, 9, 1, 12, 0);
        trim(house, 10, 90, 10, 1, 11, 0);
        house = house("-30-300,10 100,30-100");
        trim(house, 10, 0, 0, 1, 21, 0);
        trim(house, 10, 1, 1, 1, 20, 0);
        trim(house, 10, -1, 0, 1, 21, 0);
        trim(house, 10, MOST);
        trim(house, 10, LEAST);
        trim(house, 1, 0, -10, 1);
        trim(house, 40, 99 * 16, 10, 1, 11, 0);
        trim(house, 40, 99 * 16 + 1);
    }

    // ---- "both are there and SOLVED": the slants -30 .. 30 alone ----

    private static void trimsAtBothEnds() {
        WingHouse house = house("-30-300,30 300");
        trim(house, 10, -300);
        trim(house, 10, -299);
        trim(house, 10, -298, -29, 1);
        trim(house, 10, -289, -29, 1);
        trim(house, 10, -288, -28, 1);
        trim(house, 10, 290, 30, 1);
        trim(house, 10, 289, 29, 1);
        trim(house, 10, 299, 30, 1);
        trim(house, 10, 300);
        house = house("-30 300,30-300");
        trim(house, 10, 299, -29, 0);
        trim(house, 10, 300);
        trim(house, 10, -298, 30, 0);
        trim(house, 10, -299);
    }

    private static void manyTrims() {
        WingHouse house = house("-30 0,-29 100,-28 0,-27 100,-1 100,0 0,29 0,30 100");
        trim(house, 10, 50, -29, 1, -28, 0, -27, 1, 0, 0, 30, 1);
        house = house("-30 100,-29 0,-28 100,-27 0,-26 100,-25 0,-24 100,-23 0");
        trim(house, 10, 99, -29, 0, -28, 1, -27, 0, -26, 1, -25, 0, -24, 1, -23, 0);
        // A row of fewer does not show those of the one ahead.
        trim(house, 10, 100);
        trim(house, 10, 0);
        // At each place another way: ten strips leap six times each, one behind another.
        StringBuilder text = new StringBuilder("law k:-3 0,-2 200,-1 0,0 200,1 0,2 200,3 0;drag d:0 0,1 0;wing w:");
        for (int i = 0; i < 10; i++) {
            text.append(i > 0 ? "," : "").append("1 k d ").append(27 - 6 * i);
        }
        house = Check.houseOf(text.append(" deep 2000;").toString());
        int[] due = new int[120];
        for (int i = 0; i < 60; i++) {
            due[2 * i] = i - 29;
            due[2 * i + 1] = 1 - i % 2;
        }
        trim(house, 10, 1, due);
        trim(house, 10, 199, due);
        trim(house, 10, 200);
    }

    // ---- "those UNSETTLED are left out" ----

    private static void trimsBesideUnsettled() {
        WingHouse house = Check.houseOf(LEAPS + ";", "law j:0 999,1 0,2-100;drag d:0 7,1 7;wing w:9 j d 0 deep 2000;");
        house.use(0);
        // Between 0 and 9 none is solved: LIFT goes from 0 to 8990 without a trim.
        trim(house, 10, 1);
        trim(house, 10, 8990);
        trim(house, 10, 0, 0, 1);
        trim(house, 10, -179, -1, 1);
        CHECK.yes("it is unsettled", house.solve(0, 10, 8, false) == -2 && house.solve(0, 10, 9, false) > 0);
    }

    // ---- "the least SPEED 1 .. 40 at which it is UNSETTLED from rest, or some BEND is not -90 .. 90" ----

    private static void fold(String points, int stiff, int due) {
        WingHouse house = Check.houseOf("law k:" + points + ";law z:0 0,1 0;drag d:0 0,1 0;"
                + "wing w:1 z d 0,1 k d 0,1 z d 0 deep 2000 stiff " + stiff + ";");
        CHECK.same("fold of " + points + " by " + stiff, house.fold(0, 5), due);
    }

    private static void folds() {
        // BEND at the second strip is 2 * G * v * v / (1000 * stiff), at the tip as much.
        fold("0 91,1 91", 1, 23);
        for (int g = 1; g <= 998; g += 7) {
            for (int side = -1; side <= 1; side += 2) {
                int due = -2;
                for (int v = 40; v >= 1; v--) {
                    due = 2L * g * v * v / 2000 > 90 ? v : due;
                }
                fold("0 " + side * (g + 1) + ",1 " + side * (g + 1), 2, due);
            }
        }
        // At 40: 2 * G * 1600 / 3000 is 91 from 86 on, and 90 at 85.
        fold("0 87,1 87", 3, 40);
        fold("0 86,1 86", 3, -2);
        fold("0-87,1-87", 3, 40);
        fold("0-86,1-86", 3, -2);
        fold("0 999,1 999", 0, -2);
        // At the speed 1 there is but one that bends so far: ten strips of 9 * 999.
        String ten = "9 k d 0" + ",9 k d 0".repeat(9);
        WingHouse house = Check.houseOf("law k:0 999,1 999;drag d:0 0,1 0;wing w:" + ten + " deep 2000 stiff 1;"
                + "wing x:" + ten + " deep 2000 stiff 5;wing y:" + ten + " deep 2000 stiff 6;");
        house.solve(0, 1, 0, false);
        CHECK.same("the tip's BEND", house.strip(0, 9, 2), 8990 * 55 / 1000);
        CHECK.same("at the first speed", house.fold(0, 0), 1);
        CHECK.same("at the first speed still", house.fold(1, 0), 1);
        CHECK.same("no more", house.fold(2, 0), 2);
        house = Check.houseOf(LEAPS + ";" + LEAPS.substring(LEAPS.indexOf("wing")).replace("w:", "x:") + " stiff 1;");
        CHECK.same("unsettled at the first speed", house.fold(0, 1), 1);
        CHECK.same("settled at all", house.fold(0, 9), -2);
        CHECK.same("both", house.fold(1, 1), 1);
        for (int s : new int[] {-31, 31, LEAST, MOST}) {
            CHECK.same("NONE, not -2", house.fold(0, s), -1);
        }
        CHECK.same("no wing", house.fold(2, 0), -1);
    }

    // ---- "It SHAKES if the greatest of q without sign in the last 40 times is above 1000" ----

    /** Whether a wing shakes whose A is 180 or -180: "LAW at ANGLE + 1 less LAW at ANGLE - 1", each way once. */
    private static void shakes(int slope, int v, int b, int c, int d, int due) {
        String sign = slope > 0 ? "" : "-";
        String other = slope > 0 ? "-" : "";
        String[] laws = {"-90 " + other + "900,90 " + sign + "900", "-2 7,-1 0,0 0,1 " + sign + "20,2 5",
            "-2 7,-1 " + other + "20,0 0,1 0,2 5"};
        for (String law : laws) {
            // p and u, with a, never come to q.
            for (int a : new int[] {1, 2000}) {
                String mass = " mass " + a + " " + b + " " + c + " " + d + ";";
                WingHouse house = Check.houseOf("law n:" + law + ";drag d:0 7,1 7;wing w:9 n d 0 deep 2000" + mass);
                CHECK.same("shakes " + slope + " at " + v + ": " + b + " " + c + " " + d, house.shakes(0, v, 0), due);
            }
        }
    }

    private static void shakesAbove() {
        // The greatest is 999, 1000, 1001 and 1002.
        int[][] to = {{180, 37, 930, 3, 123, 0}, {-180, 7, 6, 1496, 667, 0}, {-180, 9, 37, 5, 676, 0},
            {-180, 14, 29, 12, 813, 0}, {-180, 11, 40, 50, 1918, 0}, {-180, 10, 35, 17, 1979, 0},
            {180, 7, 37, 4, 675, 0}, {-180, 11, 14, 3, 479, 0}, {-180, 31, 51, 53, 299, 0}, {-180, 8, 6, 936, 625, 0},
            {180, 21, 34, 3, 237, 1}, {-180, 10, 51, 4, 1191, 1}, {180, 25, 1250, 5, 263, 1}, {180, 18, 31, 5, 150, 1},
            {180, 24, 1869, 8, 258, 1}, {180, 12, 31, 2, 728, 1}, {-180, 15, 48, 7, 764, 1}, {180, 20, 22, 2, 410, 1}};
        for (int[] t : to) {
            shakes(t[0], t[1], t[2], t[3], t[4], t[5]);
        }
        // f by one in a million less would tell these otherwise.
        int[][] near = {{-180, 10, 26, 8, 834, 0}, {180, 10, 9, 7, 284, 1}, {180, 20, 10, 1, 965, 1},
            {180, 10, 57, 2, 1903, 0}};
        for (int[] n : near) {
            shakes(n[0], n[1], n[2], n[3], n[4], n[5]);
        }
        // The least and the greatest of each.
        shakes(-180, 40, 1, 1, 2000, 1);
        shakes(180, 40, 2000, 1, 2000, 1);
        shakes(180, 1, 1, 2000, 1, 0);
        shakes(-180, 1, 1, 2000, 1, 0);
        shakes(-180, 1, 2000, 2000, 1, 1);
        shakes(180, 40, 1, 2000, 2000, 1);
    }

    /** Those that would be told otherwise by the last 41, the last 39, 119 or 121 times. */
    private static void lastForty() {
        int[][] times = {{180, 33, 1617, 7, 243, 0}, {-180, 32, 990, 3, 1290, 0}, {180, 3, 24, 5, 1257, 0},
            {180, 1, 1742, 7, 841, 0}, {-180, 27, 1784, 7, 9, 1}, {-180, 38, 1294, 5, 109, 1},
            {180, 26, 1998, 9, 1393, 1}, {-180, 19, 536, 2, 1156, 1}, {-180, 16, 42, 6, 689, 1},
            {-180, 19, 23, 13, 316, 1}, {180, 8, 337, 1844, 1700, 1}, {-180, 9, 17, 11, 1070, 1},
            {-180, 17, 233, 1934, 990, 0}, {-180, 28, 57, 3, 289, 0}, {180, 16, 1, 3, 733, 0},
            {-180, 38, 1885, 1263, 1562, 0}};
        for (int[] t : times) {
            shakes(t[0], t[1], t[2], t[3], t[4], t[5]);
        }
    }

    private static void shakeAtSpeeds() {
        // Unsettled up to 19, shaking at 20 alone.
        String strip = ":5 j d 0 deep 341 stiff 37 sweep-4";
        String gap = "law j:-5-100,0 0,1 999;drag d:0 7,1 7;wing w" + strip + " mass 1 87 13 1678;wing x" + strip + ";";
        WingHouse house = Check.houseOf(gap);
        for (int v = 1; v <= 40; v++) {
            CHECK.same("shakes at " + v, house.shakes(0, v, 9), v < 20 ? -2 : v == 20 ? 1 : 0);
            CHECK.same("no mass at " + v, house.shakes(1, v, 9), -1);
        }
        CHECK.same("unsettled ones do not shake", house.shake(0, 9), 20);
        CHECK.same("no mass", house.shake(1, 9), -1);
        for (int s : new int[] {-31, 31, LEAST, MOST}) {
            CHECK.same("no slant " + s, house.shake(0, s), -1);
            CHECK.same("no slant " + s, house.shakes(0, 10, s), -1);
        }
        for (int v : new int[] {0, -1, 41, LEAST, MOST}) {
            CHECK.same("no speed " + v, house.shakes(0, v, 9), -1);
        }
        for (int s : new int[] {-30, 30}) {
            CHECK.yes("last slants", house.shakes(0, 40, s) != -1 && house.shake(0, s) != -1);
        }
    }

    // ---- "each TWIST from its own less 2 to its own and 2 (not beyond -30 .. 30)" ----

    private static final String LAWS = "law a:-90-900,90 900;drag p:-90 90,90 270;drag m:-90 270,90 90;";

    private static void reach(int own, int least, int most) {
        for (String drag : new String[] {"p", "m"}) {
            WingHouse house = Check.houseOf(LAWS + "wing w:1 a " + drag + " " + own + " deep 2000;");
            // By p the least angle has the least drag, by m the greatest.
            int due = drag.equals("p") ? least : most;
            CHECK.same("best of " + own, house.best(0, 10, 0, 1, LEAST), 180 + (drag.equals("p") ? due : -due));
            CHECK.same("twist of " + own, house.twist(0), due);
            CHECK.same("not told", house.best(0, 10, 0, 0, LEAST), 180 + (drag.equals("p") ? own : -own));
            CHECK.same("none told", house.twist(0), -1000);
        }
    }

    private static void twistsWithinReach() {
        for (int own = -28; own <= 28; own++) {
            reach(own, own - 2, own + 2);
        }
        reach(29, 27, 30);
        reach(30, 28, 30);
        reach(-29, -30, -27);
        reach(-30, -30, -28);
    }

    // ---- "so that LIFT is not below a number" ----

    private static void liftNotBelow() {
        WingHouse house = Check.houseOf(LAWS + "wing w:1 a p 5 deep 2000;wing x:1 a p-5 deep 2000;");
        // LIFT is 10 * twist less 1, and one more below 0.
        int[][] due = {{LEAST, 3}, {0, 3}, {28, 3}, {29, 3}, {30, 4}, {39, 4}, {40, 5}, {68, 7}, {69, 7}};
        for (int[] d : due) {
            CHECK.same("not below " + d[0], house.best(0, 10, 0, 1, d[0]), 180 + d[1]);
            CHECK.same("twist for " + d[0], house.twist(0), d[1]);
        }
        for (int least : new int[] {70, 71, 1000000, MOST}) {
            house.best(0, 10, 0, 1, 0);
            CHECK.same("none for " + least, house.best(0, 10, 0, 1, least), NO_BEST);
            CHECK.same("none is remembered for " + least, house.twist(0), -1000);
        }
        CHECK.same("not below -69", house.best(1, 10, 0, 1, -69), 173);
        CHECK.same("not below -68", house.best(1, 10, 0, 1, -68), 174);
        CHECK.same("not below -29", house.best(1, 10, 0, 1, -29), 177);
        CHECK.same("not below -28", house.best(1, 10, 0, 1, -28), NO_BEST);
        CHECK.same("as it is", house.best(0, 10, 0, 0, 49), 185);
        CHECK.same("as it is not", house.best(0, 10, 0, 0, 50), NO_BEST);
        CHECK.same("by LIFT, not G", house.best(0, 40, 0, 1, 29 * 16), 183 * 16);
        CHECK.same("by LIFT, not G", house.best(0, 40, 0, 1, 29 * 16 + 1), 184 * 16);
    }

    // ---- "of told STRIPS (bits, 4 at most)" ----

    private static void toldStrips() {
        String ten = LAWS + "wing w:1 a p 5" + ",1 a p 5".repeat(9) + " deep 2000;wing x:1 a p 5"
                + ",1 a p 5".repeat(2) + " deep 2000;";
        WingHouse house = Check.houseOf(ten);
        for (int i = 0; i < 10; i++) {
            CHECK.same("strip " + i, house.best(0, 10, 0, 1 << i, LEAST), 1850 - 2);
            for (int j = -1; j <= 10; j++) {
                CHECK.same("twist of " + j, house.twist(j), j == i ? 3 : -1000);
            }
        }
        int[] four = {0b1111, 0b1111000000, 0b1001001001, 0b1000000111, 0b0101010100};
        for (int strips : four) {
            CHECK.same("four", house.best(0, 10, 0, strips, LEAST), 1850 - 8);
            for (int j = 0; j < 10; j++) {
                CHECK.same("twist of " + j, house.twist(j), (strips >> j & 1) == 1 ? 3 : -1000);
            }
        }
        house = Check.houseOf(ten);
        house.best(0, 10, 0, 1, LEAST);
        for (int strips : new int[] {0b11111, 0b1111000001, 0b1111111111, 0b10000000000, 0b10000000001, -1, LEAST, MOST,
            1 << 30, LEAST + 1}) {
            CHECK.same("refused " + strips, house.best(0, 10, 0, strips, LEAST), NO_FORCE);
            CHECK.same("nothing happens by " + strips, house.twist(0), 3);
        }
        CHECK.same("all three", house.best(1, 10, 0, 0b111, LEAST), 555 - 6);
        for (int strips : new int[] {0b1000, 0b1001, 0b1111, 16, -8}) {
            CHECK.same("refused of three " + strips, house.best(1, 10, 0, strips, LEAST), NO_FORCE);
        }
    }

    // ---- "of these the first (the least STRIP's TWIST the least, then the next one's)" ----

    private static void firstOfTheLeast() {
        // One drag for all: LIFT alone tells them apart, and it goes by the sum of the twists.
        WingHouse house = Check.houseOf("law a:-90-900,90 900;drag k:0 7,1 7;wing w:1 a k 5" + ",1 a k 5".repeat(3)
                + " deep 2000;");
        int[][] due = {{LEAST, 3, 3, 3, 3}, {116, 3, 3, 3, 3}, {117, 3, 3, 3, 4}, {156, 3, 3, 3, 7}, {157, 3, 3, 4, 7},
            {196, 3, 3, 7, 7}, {197, 3, 4, 7, 7}, {236, 3, 7, 7, 7}, {237, 4, 7, 7, 7}, {276, 7, 7, 7, 7}};
        for (int[] d : due) {
            CHECK.same("for " + d[0], house.best(0, 10, 0, 15, d[0]), 28);
            for (int i = 0; i < 4; i++) {
                CHECK.same("for " + d[0] + " of " + i, house.twist(i), d[i + 1]);
            }
        }
        CHECK.same("not even the last", house.best(0, 10, 0, 15, 277), NO_BEST);
        // DRAG less by one of the speed's hundredths is not less.
        house = Check.houseOf(LAWS + "wing w:1 a m 5 deep 2000;");
        CHECK.same("as little drag", house.best(0, 1, 0, 1, LEAST), 1);
        CHECK.same("the first of them", house.twist(0), 3);
    }

    // ---- "it is not BARRED nor UNSETTLED"; "there is none (and none is remembered)" ----

    private static void bestOfNone() {
        WingHouse house = Check.houseOf(LAWS + "wing w:1 a p 5 deep 2000;bar b if twist<5;bar c if lift==49;",
                LAWS + "wing w:1 a p 5 deep 2000;bar b if 1/0!=1;", LEAPS + ";", LEAPS + ";bar b if 1==1;");
        house.use(0);
        CHECK.same("barred are left out", house.best(0, 10, 0, 1, LEAST), 186);
        CHECK.same("the first that is not", house.twist(0), 6);
        CHECK.same("its own twist is barred", house.best(0, 10, 0, 0, LEAST), NO_BEST);
        CHECK.same("none is remembered", house.twist(0), -1000);
        house.use(1);
        CHECK.same("what does not hold bars none", house.best(0, 10, 0, 1, LEAST), 183);
        house.use(2);
        for (int s = 3; s <= 6; s++) {
            CHECK.same("unsettled at all", house.best(0, 10, s, 1, LEAST), NO_BEST);
            CHECK.same("none is remembered", house.twist(0), -1000);
        }
        CHECK.same("one of five is settled", house.best(0, 10, 2, 1, LEAST), 63);
        CHECK.same("the least", house.twist(0), -2);
        CHECK.same("one of five is settled", house.best(0, 10, 7, 1, LEAST), 63 + 8990 * 8 / 57);
        CHECK.same("the greatest", house.twist(0), 2);
        CHECK.same("its own is unsettled", house.best(0, 10, 7, 0, LEAST), NO_BEST);
        house.use(3);
        CHECK.same("all are barred", house.best(0, 10, 0, 1, LEAST), NO_BEST);
    }

    // ---- "The TEXT stays as it is" ----

    private static void theTextStays() {
        String text = LAWS + "hinge h 5;wing w:1 a p 5 on h,1 a m-3 deep 2000;bar b if twist==3;";
        WingHouse house = Check.houseOf(text, text);
        house.solve(0, 12, 4, false);
        CHECK.yes("found", house.best(0, 10, 0, 3, LEAST) > 0);
        CHECK.same("its twist", house.twist(0), 4);
        WingHouse other = Check.houseOf(text, text);
        other.solve(0, 12, 4, false);
        CHECK.same("not barred", house.barred(0), -2);
        for (int i = 0; i < 2; i++) {
            for (int what = 0; what < 4; what++) {
                CHECK.same("as last solved", house.strip(0, i, what), other.strip(0, i, what));
            }
        }
        CHECK.same("solved on", house.solve(0, 10, 0, true), other.solve(0, 10, 0, true));
        CHECK.same("solved on", house.strip(0, 0, 0), other.strip(0, 0, 0));
        CHECK.same("curve", house.curve(0, 10, 0, 5), other.curve(0, 10, 0, 5));
        CHECK.same("lift", house.lift(3), other.lift(3));
        // It is remembered whatever comes, but another best.
        house.use(0);
        house.solve(0, 10, 0, false);
        Check.read(house, "law");
        Check.read(house, "");
        CHECK.same("remembered", house.twist(0), 4);
        CHECK.same("none of it", house.twist(2), -1000);
        CHECK.same("no such", house.best(0, 10, 0, 3, LEAST), NO_FORCE);
        CHECK.same("remembered still", house.twist(0), 4);
    }
}
