import java.util.Random;
import java.util.Set;
import java.util.TreeSet;

/** Part IV by its sentences: the first and the last of runs, voids, walls, what fits just so, the next run's places. */
public final class RunEdgesTest {
    private static final Check CHECK = new Check();
    private static final int LEAST = Integer.MIN_VALUE;
    private static final int MOST = Integer.MAX_VALUE;
    // LIFT at the speed 10 is 10 * s less 1 (and 1 more below 0), 0 at 0.
    private static final String TEN = "law a:-90-900,90 900;drag d:0 7,1 7;hinge h 9;wing w:1 a d 0 on h deep 2000;";
    private static final String LEAPS = "law j:-5-100,0 0,1 999;drag d:0 7,1 7;wing w:9 j d 0 deep 2000;";

    public static void main(String[] args) {
        sixtyAtMost();
        lastRows();
        whateverTheText();
        putRight();
        fitsJust();
        fitsFarOff();
        fitsOnlyIf();
        knownByN();
        voidsByN();
        nextPlaces();
        nextOfFew();
        nextOfWings();
        nextOfFour();
        nextAlike();
        CHECK.end("RunEdgesTest");
    }

    /** A text with which a wing of one strip comes to a G, whatever its slant. */
    private static String flat(int g) {
        int y = g + Integer.signum(g);
        return "law k:0 " + y + ",1 " + y + ";drag d:0 7,1 7;wing w:1 k d 0 deep 2000;";
    }

    // ---- "RUNS, numbered from 0 on, 60 at most"; "VOIDS of RUNS, in one row with them" ----

    private static void sixtyAtMost() {
        for (int voids = 0; voids < 60; voids += 7) {
            WingHouse house = new WingHouse();
            int runs = 60 - voids;
            for (int i = 0; i < runs; i++) {
                CHECK.same("run " + i, house.run(i % 4, 10, 0, i, 0), i);
                CHECK.same("rows", house.count(2), i + 1);
            }
            for (int i = runs; i < 60; i++) {
                CHECK.same("void " + i, house.annul(i % runs), i);
                CHECK.same("rows", house.count(2), i + 1);
            }
            CHECK.same("a 61st run", house.run(0, 10, 0, 0, 0), -1);
            CHECK.same("a 61st void", house.annul(0), -1);
            CHECK.same("sixty", house.count(2), 60);
            for (int i = 0; i < 60; i++) {
                CHECK.same("right " + i, house.right(i), i < runs ? i : -1000000000);
            }
            CHECK.same("right 60", house.right(60), -1000000000);
        }
        // One kind behind the other.
        WingHouse house = new WingHouse();
        for (int i = 0; i < 60; i += 2) {
            CHECK.same("run", house.run(0, 10, 0, i, 0), i);
            CHECK.same("void", house.annul(i), i + 1);
            CHECK.same("a void is no run", house.annul(i + 1), -1);
            CHECK.same("nor is the next", house.annul(i + 2), -1);
        }
    }

    private static void lastRows() {
        WingHouse house = Check.houseOf(TEN, flat(99));
        for (int i = 0; i < 59; i++) {
            house.run(0, 10, 10, 99, 0);
        }
        CHECK.same("the last is a run", house.run(0, 10, 20, 199, 0), 59);
        CHECK.same("right of it", house.right(59), 199);
        CHECK.same("it fits", house.fits(0, 59), 1);
        CHECK.same("it does not fit", house.fits(1, 59), 0);
        CHECK.same("not known", house.out(1, 59), -2);
        CHECK.same("known", house.out(1, 60), 59);
        CHECK.same("none more", house.out(1, 61), -1);
        CHECK.same("next, not known", house.next(0, 59), 3980);
        CHECK.same("next, known", house.next(0, 60), -2);
        CHECK.same("next of none more", house.next(0, 61), -10000);
        house = Check.houseOf(TEN, flat(99));
        for (int i = 0; i < 58; i++) {
            house.run(0, 10, 10, 99, 0);
        }
        house.run(0, 10, 20, 199, 0);
        CHECK.same("the last is a void", house.annul(58), 59);
        CHECK.same("known, void not", house.out(1, 59), 58);
        CHECK.same("void by the last", house.out(1, 60), -2);
        CHECK.same("right of the void", house.right(59), -1000000000);
        CHECK.same("fits of the void", house.fits(1, 59), -1);
    }

    // ---- "(they stay whatever the TEXT)" ----

    private static void whateverTheText() {
        WingHouse house = new WingHouse();
        house.run(3, 40, -30, -1000000, 500);
        house.run(0, 10, 10, 99, 0);
        house.annul(0);
        Check.read(house, TEN);
        Check.read(house, "law");
        Check.read(house, flat(5));
        house.use(0);
        CHECK.same("rows", house.count(2), 3);
        CHECK.same("right", house.right(0), -666666);
        CHECK.same("void", house.out(0, 3), -2);
        CHECK.same("not void", house.out(0, 2), 0);
        CHECK.same("of another text", house.out(1, 3), 1);
        CHECK.same("the next row", house.run(0, 1, 0, 0, 0), 3);
    }

    // ---- "PUT RIGHT: lift * 1000 / (1000 + WALL)" ----

    private static void putRight() {
        int[] lifts = {-1000000, -999999, -1501, -1500, -1499, -2, -1, 0, 1, 2, 1499, 1500, 1501, 999999, 1000000};
        for (int wall : new int[] {0, 1, 2, 250, 499, 500}) {
            WingHouse house = new WingHouse();
            for (int i = 0; i < lifts.length; i++) {
                CHECK.same("run", house.run(0, 1, 0, lifts[i], wall), i);
                CHECK.same("right of " + lifts[i] + " by " + wall, house.right(i), lifts[i] * 1000L / (1000 + wall));
            }
        }
        WingHouse house = new WingHouse();
        house.run(0, 1, 0, -1, 1);
        house.run(0, 1, 0, 3, 500);
        house.run(0, 1, 0, -3, 500);
        CHECK.same("towards 0", house.right(0), 0);
        CHECK.same("just 2", house.right(1), 2);
        CHECK.same("just -2", house.right(2), -2);
    }

    // ---- "its LIFT is not further from that than a tenth of it without sign (rounded down) and 20" ----

    private static void fitsJust() {
        for (int slant : new int[] {-30, -10, -1, 0, 1, 10, 30}) {
            int lift = slant == 0 ? 0 : 10 * slant - Integer.signum(slant);
            for (int from = -420; from <= 420; from += 60) {
                WingHouse house = Check.houseOf(TEN);
                for (int i = 0; i < 60; i++) {
                    int right = from + i;
                    house.run(0, 10, slant, right, 0);
                    int near = Math.abs(right) / 10 + 20;
                    boolean due = lift - right <= near && right - lift <= near;
                    CHECK.same("LIFT " + lift + " by " + right, house.fits(0, i), due ? 1 : 0);
                }
            }
        }
        int[][] edges = {{0, 22, 1}, {0, 23, 0}, {0, -22, 1}, {0, -23, 0}, {10, 71, 0}, {10, 72, 1}, {10, 132, 1},
            {10, 133, 0}, {-10, -132, 1}, {-10, -133, 0}, {-10, -72, 1}, {-10, -71, 0}, {10, 99, 1}, {10, -99, 0}};
        for (int[] e : edges) {
            WingHouse house = Check.houseOf(TEN);
            house.run(0, 10, e[0], e[1], 0);
            CHECK.same("slant " + e[0] + " by " + e[1], house.fits(0, 0), e[2]);
        }
        // It is that PUT RIGHT which counts: 198 by a wall of 500 are 132.
        WingHouse house = Check.houseOf(TEN);
        house.run(0, 10, 10, 199, 500);
        house.run(0, 10, 10, 200, 500);
        house.run(0, 10, 10, 132, 500);
        CHECK.same("132", house.fits(0, 0), 1);
        CHECK.same("133", house.fits(0, 1), 0);
        CHECK.same("88", house.fits(0, 2), 1);
    }

    private static void fitsFarOff() {
        // LIFT is 16 * G at 40: with 8 strips of 9 * 781 less 1 each 899584, of 9 * 782 less 1 900736.
        String many = "law k:0 781,1 781;law l:0 782,1 782;drag d:0 7,1 7;wing w:9 k d 0" + ",9 k d 0".repeat(7)
                + " deep 2000;wing x:9 l d 0" + ",9 l d 0".repeat(7) + " deep 2000;";
        WingHouse house = Check.houseOf(many);
        house.solve(0, 40, 0, false);
        CHECK.same("LIFT", house.force(0, 0), 899584);
        house.solve(1, 40, 0, false);
        CHECK.same("LIFT", house.force(1, 0), 900736);
        house.run(0, 40, 0, 1000000, 0);
        house.run(1, 40, 0, 1000000, 0);
        house.run(0, 40, 0, 999560, 0);
        house.run(0, 40, 0, 999561, 0);
        house.run(0, 40, 0, -1000000, 0);
        house.run(0, 40, 0, 999561, 500);
        CHECK.same("further", house.fits(0, 0), 0);
        CHECK.same("near", house.fits(0, 1), 1);
        CHECK.same("just", house.fits(0, 2), 1);
        CHECK.same("just not", house.fits(0, 3), 0);
        CHECK.same("the other way", house.fits(0, 4), 0);
        CHECK.same("put right", house.fits(0, 5), 0);
    }

    // ---- "if it has that WING, it is SOLVED from rest (as of a CURVE, HINGES 0)" ----

    private static void fitsOnlyIf() {
        String four = "law a:-90-900,90 900;drag d:0 7,1 7;"
                + "wing w:1 a d 0;wing x:1 a d 0;wing y:1 a d 0;wing z:1 a d 0;";
        WingHouse house = Check.houseOf(TEN, LEAPS, "", four);
        for (int wing = 0; wing < 4; wing++) {
            house.run(wing, 10, 10, 99, 0);
        }
        for (int wing = 0; wing < 4; wing++) {
            CHECK.same("one wing " + wing, house.fits(0, wing), wing == 0 ? 1 : 0);
            CHECK.same("no wing " + wing, house.fits(2, wing), 0);
            CHECK.same("four wings " + wing, house.fits(3, wing), 1);
        }
        CHECK.same("out by a wing that it has not", house.out(0, 4), 1);
        CHECK.same("out by the first", house.out(2, 4), 0);
        CHECK.same("not out", house.out(3, 4), -2);
        house.run(0, 10, 1, 0, 0);
        CHECK.same("unsettled", house.fits(1, 4), 0);
        CHECK.same("unsettled, the greatest", house.run(0, 10, 1, -1000000, 0), 5);
        CHECK.same("unsettled", house.fits(1, 5), 0);
        // Neither hinges nor gusts nor what it was last solved to.
        house.use(0);
        for (int i = 0; i < 10; i++) {
            house.gust(i, 30);
        }
        house.hinge(0, 9);
        house.solve(0, 10, 30, false);
        CHECK.same("from rest", house.fits(0, 0), 1);
        house.use(3);
        CHECK.same("whatever is at hand", house.fits(0, 0), 1);
        CHECK.same("it does not fit by far", house.fits(1, 0), 0);
    }

    // ---- "KNOWN by n: the first n of both"; "OUT by the first RUN KNOWN by n .. that it does not FIT" ----

    private static void knownByN() {
        WingHouse house = Check.houseOf(TEN);
        int[] lifts = {99, 99, 500, 99, 500, 99};
        for (int lift : lifts) {
            house.run(0, 10, 10, lift, 0);
        }
        int[] due = {-2, -2, -2, 2, 2, 2, 2};
        for (int n = 0; n < due.length; n++) {
            CHECK.same("known by " + n, house.out(0, n), due[n]);
        }
        for (int n : new int[] {-1, 7, 8, 60, LEAST, MOST}) {
            CHECK.same("no such " + n, house.out(0, n), -1);
            CHECK.same("no such " + n, house.next(0, n), -10000);
        }
        for (int text : new int[] {-1, 1, 2, 3, 4, LEAST, MOST}) {
            CHECK.same("no text " + text, house.out(text, 0), -1);
            CHECK.same("no text " + text, house.fits(text, 0), -1);
        }
        WingHouse none = Check.houseOf(TEN);
        CHECK.same("nothing known", none.out(0, 0), -2);
        CHECK.same("one too many", none.out(0, 1), -1);
    }

    // ---- "not VOID by these" ----

    private static void voidsByN() {
        WingHouse house = Check.houseOf(TEN);
        house.run(0, 10, 10, 500, 0);
        house.run(0, 10, 10, 600, 0);
        house.annul(1);
        house.annul(0);
        house.run(0, 10, 10, 700, 0);
        house.annul(1);
        house.annul(4);
        int[] due = {-2, 0, 0, 0, -2, 4, 4, -2};
        for (int n = 0; n < due.length; n++) {
            CHECK.same("void by " + n, house.out(0, n), due[n]);
        }
        // A void does not put its run out of the row, and the run does not come back.
        CHECK.same("right still", house.right(0), 500);
        CHECK.same("fits still", house.fits(0, 0), 0);
        CHECK.same("annul once more", house.annul(0), 7);
        CHECK.same("void still", house.out(0, 8), -2);
    }

    // ---- "of all SPEEDS 10, 20, 30, 40 and SLANTS -20, -15, .. 20 .. furthest apart" ----

    private static long liftAt(WingHouse house, int v, int s) {
        return house.solve(0, v, s, false) > 0 ? house.force(0, 0) : Long.MIN_VALUE;
    }

    private static void nextPlaces() {
        Random chance = new Random(5);
        Set<Integer> seen = new TreeSet<>();
        for (int tries = 0; tries < 3000 && seen.size() < 37; tries++) {
            WingHouse house = new WingHouse();
            for (int t = 0; t < 2; t++) {
                String law = "law k:-90 " + (chance.nextInt(1999) - 999) + "," + (chance.nextInt(100) - 50) + " "
                        + (chance.nextInt(1999) - 999) + ",90 " + (chance.nextInt(1999) - 999) + ";";
                String text = law + "drag d:0 7,1 7;wing w:" + (1 + chance.nextInt(2)) + " k d 0 deep 2000 stiff "
                        + (1 + chance.nextInt(9)) + " sweep " + (chance.nextInt(19) - 9) + ";";
                CHECK.same("read", Check.read(house, text.replace(" -", "-")), 0);
            }
            int due = -2;
            long widest = -1;
            for (int v = 10; v <= 40; v += 10) {
                for (int s = -20; s <= 20; s += 5) {
                    house.use(0);
                    long one = liftAt(house, v, s);
                    house.use(1);
                    long other = liftAt(house, v, s);
                    boolean both = one != Long.MIN_VALUE && other != Long.MIN_VALUE;
                    if (both && Math.abs(one - other) > widest) {
                        widest = Math.abs(one - other);
                        due = 100 * v + s;
                    }
                }
            }
            CHECK.same("next", house.next(0, 0), due);
            seen.add(due);
        }
        CHECK.same("each of the 36 places, and none", seen.size(), 37);
    }

    // ---- "-2: fewer than two TEXTS tell a LIFT at each" ----

    private static void nextOfFew() {
        WingHouse house = new WingHouse();
        for (int wing = 0; wing < 4; wing++) {
            CHECK.same("no text", house.next(wing, 0), -2);
        }
        Check.read(house, TEN);
        CHECK.same("one text", house.next(0, 0), -2);
        Check.read(house, "");
        CHECK.same("one with that wing", house.next(0, 0), -2);
        Check.read(house, "law j:-90 0,-60 0,-59 999;drag d:0 7,1 7;wing w:9 j d 0 deep 50;");
        CHECK.same("one that settles", house.next(0, 0), -2);
        Check.read(house, flat(99));
        CHECK.same("two", house.next(0, 0), 3980);
        house.run(0, 10, 10, 99, 0);
        CHECK.same("not out", house.next(0, 1), 3980);
        house.run(0, 10, 20, 199, 0);
        CHECK.same("one is out", house.next(0, 2), -2);
        CHECK.same("known by less", house.next(0, 1), 3980);
        house.annul(1);
        CHECK.same("no more", house.next(0, 3), 3980);
        house.run(0, 10, 20, 99, 0);
        CHECK.same("the other is out", house.next(0, 4), -2);
        house.run(0, 10, 20, 199, 0);
        CHECK.same("both are out", house.next(0, 5), -2);
    }

    private static void nextOfWings() {
        String two = "law a:-90-900,90 900;law b:-90 900,90-900;drag d:0 7,1 7;wing w:1 a d 0;wing x:1 b d 0;";
        WingHouse house = Check.houseOf(two, two + "wing y:1 a d 0;wing z:1 b d 0;",
                two + "wing y:2 a d 0;wing z:1 a d 0;");
        CHECK.same("alike", house.next(0, 0), 980);
        CHECK.same("alike", house.next(1, 0), 980);
        CHECK.same("the third wing", house.next(2, 0), 3980);
        CHECK.same("the fourth wing", house.next(3, 0), 3980);
        house.run(2, 10, 20, 399, 0);
        // The first has no such wing, the second lifts half as much there.
        CHECK.same("but one is left", house.next(0, 1), -2);
        CHECK.same("but one is left", house.next(3, 1), -2);
        for (int wing : new int[] {-1, 4, 5, LEAST, MOST}) {
            CHECK.same("no such wing " + wing, house.next(wing, 0), -10000);
        }
    }

    /** Each of four texts lifts the most, then the least, at one slant alone. */
    private static void nextOfFour() {
        for (int other = 0; other < 4; other++) {
            for (int slant = -20; slant <= 20; slant += 5) {
                for (int up = -1; up <= 1; up += 2) {
                    String bump = "law k:" + (slant - 4) + " 100," + slant + " " + (100 + up * 90) + "," + (slant + 4)
                            + " 100;drag d:0 7,1 7;wing w:1 k d 0 deep 2000;";
                    WingHouse house = new WingHouse();
                    for (int t = 0; t < 4; t++) {
                        Check.read(house, t == other ? bump.replace(" -", "-") : flat(99));
                    }
                    CHECK.same("text " + other + " at " + slant, house.next(0, 0), 4000 + slant);
                    house.run(0, 10, slant, 99, 0);
                    CHECK.same("it is out", house.next(0, 1), 980);
                    house.run(0, 10, slant, 99 + up * 90, 0);
                    house.annul(0);
                    CHECK.same("it alone is in", house.next(0, 3), -2);
                }
            }
        }
        // Of three at one place the greatest and the least, whichever they are.
        int[][] gs = {{10, 20, 30, 25}, {30, 10, 20, 15}, {20, 30, 10, 15}, {-9, 0, 9, 0}, {9, -9, 0, 5}};
        for (int[] g : gs) {
            WingHouse house = Check.houseOf(flat(g[0]), flat(g[1]), flat(g[2]), flat(g[3]));
            CHECK.same("the furthest apart", house.next(0, 0), 3980);
        }
    }

    // ---- "of these the least SPEED, then SLANT" ----

    private static void nextAlike() {
        WingHouse house = Check.houseOf(TEN, TEN, TEN, TEN);
        CHECK.same("alike at all", house.next(0, 0), 980);
        // At 10 and 20 both lift 0: of those at which they differ the first is told.
        house = Check.houseOf(flat(0), flat(1));
        CHECK.same("16 at 40 alone is furthest", house.next(0, 0), 3980);
        // Turned about: as far apart at all slants from 5 on.
        house = Check.houseOf("law k:0 0,4 100;drag d:0 7,1 7;wing w:1 k d 0 deep 2000;", flat(0));
        CHECK.same("the least of the slants", house.next(0, 0), 4005);
        house = Check.houseOf("law k:-4 100,0 0;drag d:0 7,1 7;wing w:1 k d 0 deep 2000;", flat(0));
        CHECK.same("the least of the slants", house.next(0, 0), 3980);
        // The hinge stands at 0 for it, and no gust blows.
        house = Check.houseOf(TEN, flat(0));
        int still = house.next(0, 0);
        house.use(0);
        house.hinge(0, 9);
        house.gust(0, 30);
        house.solve(0, 10, 5, false);
        CHECK.same("hinges 0", house.next(0, 0), still);
        CHECK.same("hinges 0", still, 3980);
    }
}
