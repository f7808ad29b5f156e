/** Part II by its sentences: the values of laws, the first and the last of all rows, the rounds, the bars. */
public final class FlowEdgesTest {
    private static final Check CHECK = new Check();
    private static final long NO_FORCE = -1000000000000L;
    // Flat laws, each told by what a strip of the width 1 lifts by it: from rest G stays one short of its AIM.
    private static final String FLAT = "law z:0 0,1 0;drag d:0 0,1 0;";

    public static void main(String[] args) {
        valuesOfLaws();
        hinges();
        gusts();
        beyondBothEnds();
        downs();
        exactShares();
        nearWholeDowns();
        exactM();
        heights();
        offsets();
        leaders();
        bends();
        sweeps();
        rounds();
        fromRestOrOn();
        unsettledStays();
        forces();
        forcesOfOthers();
        firstStripThenBar();
        comparisons();
        rowsOfLits();
        variables();
        wrapping();
        divisionsByZero();
        CHECK.end("FlowEdgesTest");
    }

    /** A law with which a strip of the width 1 comes from rest to a G; a wing of such strips. */
    private static String lifting(int g) {
        return g == 0 ? "0 0,1 0" : "0 " + (g + Integer.signum(g)) + ",1 " + (g + Integer.signum(g));
    }

    private static String wing(String makes, int... g) {
        StringBuilder laws = new StringBuilder(FLAT);
        StringBuilder strips = new StringBuilder("wing w:");
        StringBuilder told = new StringBuilder();
        for (int i = 0; i < g.length; i++) {
            String name = told.indexOf("<" + g[i] + ">") < 0 ? "l" + (char) ('a' + i) : null;
            if (name != null) {
                laws.append("law ").append(name).append(':').append(lifting(g[i])).append(';');
                told.append('<').append(g[i]).append('>').append(name);
            }
            int at = told.indexOf("<" + g[i] + ">") + ("<" + g[i] + ">").length();
            strips.append(i > 0 ? "," : "").append("1 ").append(told, at, at + 2).append(" d 0");
        }
        return laws + strips.toString() + (makes.isEmpty() ? "" : " " + makes) + ";";
    }

    private static void row(String name, WingHouse house, int wing, int what, int... due) {
        for (int i = 0; i < due.length; i++) {
            CHECK.same(name + " of " + i, house.strip(wing, i, what), due[i]);
        }
    }

    // ---- "A LAW's value at x": "x0 <= x < x1"; "below the first its y, from the last on its y" ----

    private static long between(int[] points, int x) {
        long value = points[1];
        for (int i = 0; i < points.length; i += 2) {
            boolean last = i + 2 == points.length;
            if (x >= points[i] && (last || x < points[i + 2])) {
                value = last ? points[i + 1] : points[i + 1]
                        + (points[i + 3] - points[i + 1]) * (long) (x - points[i]) / (points[i + 2] - points[i]);
            }
        }
        return value;
    }

    private static void valuesOfLaws() {
        int[][] laws = {{0, 0, 1, 1}, {-90, -999, 90, 999}, {-90, 999, 90, -999}, {-1, 5, 0, -5}, {0, 7, 3, -4, 7, 0},
            {-90, 1, -89, -1, -2, 3, -1, 0, 0, 9, 1, -9, 89, 10, 90, 11}, {-7, 3, -4, 1, 5, -8, 9, -8, 12, 0}};
        StringBuilder text = new StringBuilder();
        for (int k = 0; k < laws.length; k++) {
            text.append(k % 2 == 0 ? "law " : "drag ").append((char) ('a' + k)).append(':');
            for (int i = 0; i < laws[k].length; i += 2) {
                text.append(i > 0 ? "," : "").append(laws[k][i]).append(' ').append(laws[k][i + 1]);
            }
            text.append(';');
        }
        for (int k = 0; k < laws.length; k++) {
            WingHouse house = Check.houseOf(text.toString());
            for (int x = -100; x <= 100; x++) {
                CHECK.same("law " + k + " at " + x, house.law(k, x), between(laws[k], x));
            }
            int last = laws[k].length - 1;
            for (int x : new int[] {-1000, -999, -500, -101}) {
                CHECK.same("below the first", house.law(k, x), laws[k][1]);
                CHECK.same("from the last on", house.law(k, -x), laws[k][last]);
            }
            CHECK.same("at the first", house.law(k, laws[k][0]), laws[k][1]);
            CHECK.same("at the last", house.law(k, laws[k][last - 1]), laws[k][last]);
        }
    }

    // ---- "HINGES' ANGLES (from - its INT to its INT; 0 at first; of each TEXT its own)" ----

    private static void hinges() {
        String text = FLAT + "hinge e 1;hinge f 30;hinge g 7;hinge h 2;"
                + "wing w:1 z d 0 on e,1 z d 0 on f,1 z d 0 on g,1 z d 0 on h,1 z d 0,1 z d 0 on h;";
        int[] most = {1, 30, 7, 2};
        WingHouse house = Check.houseOf(text, text);
        house.solve(0, 10, 4, false);
        row("0 at first", house, 0, 3, 4, 4, 4, 4, 4, 4);
        for (int k = 0; k < 4; k++) {
            for (int a : new int[] {-most[k], 0, most[k]}) {
                CHECK.yes("hinge " + k + " to " + a, house.hinge(k, a));
                CHECK.no("not above", house.hinge(k, most[k] + 1));
                CHECK.no("not below", house.hinge(k, -most[k] - 1));
                house.solve(0, 10, 4, false);
                for (int j = 0; j < 4; j++) {
                    CHECK.same("ANGLE on " + j, house.strip(0, j, 3), j == k ? 4 + a : j < k ? 4 + most[j] : 4);
                }
                CHECK.same("without", house.strip(0, 4, 3), 4);
            }
        }
        row("two on one", house, 0, 3, 5, 34, 11, 6, 4, 6);
        house.use(0);
        house.solve(0, 10, 4, false);
        row("of each text its own", house, 0, 3, 4, 4, 4, 4, 4, 4);
        house.use(1);
        house.solve(0, 10, 4, false);
        row("it stays", house, 0, 3, 5, 34, 11, 6, 4, 6);
        // What was solved ahead stays as it was solved.
        house.hinge(0, -1);
        row("as last solved", house, 0, 3, 5, 34, 11, 6, 4, 6);
    }

    // ---- "The GUST at STRIP i (0 .. 9; of any WING, any TEXT; 0 at first)" ----

    private static void gusts() {
        String ten = FLAT + "wing v:1 z d 0;wing w:1 z d 0" + ",1 z d 0".repeat(9) + ";";
        WingHouse house = Check.houseOf(ten, ten);
        house.solve(1, 10, 4, false);
        row("0 at first", house, 1, 3, 4, 4, 4, 4, 4, 4, 4, 4, 4, 4);
        for (int i = 0; i < 10; i++) {
            CHECK.yes("gust at " + i, house.gust(i, i % 2 == 0 ? 30 - i : i - 30));
        }
        int[] due = {34, -25, 32, -23, 30, -21, 28, -19, 26, -17};
        house.solve(1, 10, 4, false);
        row("gusts", house, 1, 3, due);
        house.ground(1, 10, 4, 20);
        row("over ground", house, 1, 3, due);
        house.solve(0, 10, 4, false);
        row("any wing", house, 0, 3, 34);
        house.follow(1, 10, 4, 0, 0);
        row("behind a leader", house, 1, 3, due);
        house.use(0);
        house.solve(1, 10, 4, true);
        row("any text", house, 1, 3, due);
        house.gust(9, -30);
        row("as last solved", house, 1, 3, due);
        house.solve(1, 10, 4, true);
        CHECK.same("the last one", house.strip(1, 9, 3), -26);
    }

    // ---- "G of each is an int, beyond both ends 0. EDGES k = 0 .. n" ----

    private static void beyondBothEnds() {
        WingHouse house = Check.houseOf(wing("", 7));
        house.solve(0, 10, 0, false);
        int[] one = {-1000000, 7, -7, -1000000};
        for (int k = -1; k <= 2; k++) {
            CHECK.same("edge of one " + k, house.edge(0, k), one[k + 1]);
        }
        house = Check.houseOf(wing("", 5, -5, 9, 9, 0, 1, 5, 0, 5, 3));
        house.solve(0, 10, 0, false);
        int[] ten = {-1000000, 5, -10, 14, 0, -9, 1, 4, -5, 5, -2, -3, -1000000};
        for (int k = -1; k <= 11; k++) {
            CHECK.same("edge of ten " + k, house.edge(0, k), ten[k + 1]);
        }
        CHECK.same("the tenth strip", house.strip(0, 9, 0), 3);
        CHECK.same("none behind it", house.strip(0, 10, 0), -1000000);
        house.solve(0, 10, 0, true);
        CHECK.same("the tenth strip, on", house.strip(0, 9, 0), 3);
    }

    // ---- "DOWN of i: (the sum ..) / (M * deep)", rounded towards 0 ----

    private static void down(int g, int deep, int due) {
        WingHouse house = Check.houseOf(wing("deep " + deep, g));
        house.solve(0, 10, 0, false);
        CHECK.same("G", house.strip(0, 0, 0), g);
        CHECK.same("DOWN of " + g + " by " + deep, house.strip(0, 0, 1), due);
        CHECK.same("ANGLE of " + g + " by " + deep, house.strip(0, 0, 3), -due);
    }

    private static void downs() {
        down(24, 50, 0);
        down(25, 50, 1);
        down(49, 50, 1);
        down(50, 50, 2);
        down(-24, 50, 0);
        down(-25, 50, -1);
        down(-49, 50, -1);
        down(-50, 50, -2);
        down(997, 2000, 0);
        down(998, 1996, 1);
        down(998, 1997, 0);
        down(-998, 1996, -1);
        down(-998, 1997, 0);
        down(0, 50, 0);
    }

    /** One strip lifts, the others tell exact DOWNS of it: 2 * g / (4 * i * i - 1) / deep. */
    private static void exactShares() {
        int[][] rows = {{1, 75, 1}, {2, 375, 1}, {3, 875, 1}, {4, 1575, 2}, {5, 2475, 4}, {6, 3575, 4}, {8, 6375, 8}};
        for (int[] r : rows) {
            int g = r[1];
            int width = r[2];
            for (int less = 0; less <= width; less += width) {
                String law = "law k:0 " + (g + 1 - less) / width + ",1 " + (g + 1 - less) / width + ";";
                WingHouse house = Check.houseOf(FLAT + law + "wing w:" + width + " k d 0" + ",1 z d 0".repeat(9)
                        + " deep 50;");
                house.solve(0, 10, 0, false);
                CHECK.same("G", house.strip(0, 0, 0), g - less);
                CHECK.same("exact at " + r[0] + " less " + less, house.strip(0, r[0], 1), less == 0 ? -1 : 0);
            }
        }
    }

    /** Sums so near to a whole DOWN that one more or less in M / 1, M / 3, .. M / 19 would be seen; each row begins
     *  with the strip, deep and the DOWN that is due. */
    private static void nearWholeDowns() {
        int[][] rows = {
            {4, 1446, 1, 875, 875, 656, 616, 875, -339, -910, 616, 875, 616},
            {7, 805, 0, 441, 538, 33, 345, 441, -97, 441, -97, 441, -97},
            {5, 1180, -1, -22, -22, 705, 705, -429, -429, 545, 705, 545, -429},
            {3, 1764, 1, -161, 4, -137, 793, -137, 4, -161, -161, 793, 793},
            {5, 320, -1, 187, -229, 368, -428, 368, -229, -428, -428, -229, 368},
            {4, 818, 1, 273, -734, 168, -734, 168, 168, -734, 273, -734, 583},
            {3, 1204, -1, -679, -679, 143, -419, 819, -679, -679, -679, 143, 143},
            {7, 1516, 1, -704, -704, -836, -626, -836, -626, 903, 903, -371, 903},
            {3, 974, -1, -241, 676, -692, -692, -49, -241, 676, -692, 676, 676},
            {4, 258, -1, -405, -928, -341, -155, -405, -341, -405, -928, 124, -341},
            {7, 763, 0, 957, -727, 957, 957, -151, -151, 957, -151, -151, -727},
            {6, 897, 1, 604, -407, 784, -407, 604, 604, 395, -974, 604, -407},
            {2, 1174, 1, -318, -318, 61, -864, -978, -864, -500, -500, -500, -864},
            {3, 463, 1, 655, -570, 941, 655, 655, -739, -653, -653, -570, -739},
            {7, 834, 1, 762, 632, -94, -172, 703, 632, 703, 703, -172, 632},
            {2, 788, 1, -733, 74, 74, -733, -733, 438, 74, -733, -733, -733},
            {8, 1324, 1, 709, 408, 789, -434, 596, -434, 789, 408, 709, -434},
            {0, 1115, 0, -421, 244, 537, 244, 341, 341, 341, 341, -421, 341},
            {0, 347, 0, 439, 642, 439, 439, 439, -347, 642, 439, 143, -347},
            {0, 1602, 0, -680, 701, -739, -944, -739, -944, -944, -739, -680, -680}
        };
        for (int[] r : rows) {
            int[] g = java.util.Arrays.copyOfRange(r, 3, 13);
            WingHouse house = Check.houseOf(wing("deep " + r[1], g));
            house.solve(0, 10, 0, false);
            row("G", house, 0, 0, g);
            CHECK.same("DOWN of " + r[0] + " by " + r[1], house.strip(0, r[0], 1), r[2]);
        }
    }

    // ---- "M is 14549535" ----

    private static void exactM() {
        // (2 * 295 - 250) / 17 + 3 * 250 / 25 are 50: with another M some rest would be lost.
        WingHouse house = Check.houseOf(wing("deep 50", 295, 250));
        house.ground(0, 10, 0, 1);
        CHECK.same("DOWN over ground", house.strip(0, 0, 1), 8 - 1);
        house.solve(0, 10, 0, false);
        CHECK.same("DOWN in the open", house.strip(0, 0, 1), 8);
        // 3 / 9 - 63 / 7 + 0 / 5 + 2 / 3 + 58 / 1 are 50.
        house = Check.houseOf(wing("", 3, -60, -60, -58) + "wing x:1 z d 0 deep 50;wing y:1 z d 0 deep 51;");
        house.solve(0, 10, 0, false);
        house.follow(1, 10, 0, 0, -4);
        CHECK.same("DOWN behind", house.strip(1, 0, 1), 1);
        house.follow(2, 10, 0, 0, -4);
        CHECK.same("DOWN behind, deeper", house.strip(2, 0, 1), 0);
    }

    // ---- "Over GROUND of height h (1 .. 20): less (..) / (M * deep)" ----

    private static void heights() {
        long m = 14549535L;
        for (int h = 1; h <= 20; h++) {
            WingHouse house = Check.houseOf(wing("deep 50", 900, 0, -450));
            CHECK.yes("over ground", house.ground(0, 10, 0, h) > 0);
            int[] s = {900, -900, -450, 450};
            for (int i = 0; i < 3; i++) {
                long open = 0;
                long ground = 0;
                for (int k = 0; k < 4; k++) {
                    long d = 2 * (i - k) + 1;
                    open += s[k] * m / d;
                    ground += s[k] * m * d / (d * d + 16L * h * h);
                }
                CHECK.same("DOWN over " + h + " of " + i, house.strip(0, i, 1), open / (m * 50) - ground / (m * 50));
            }
        }
        // By one strip at h: 2 * g / (1 + 16 * h * h): 8 of 68 at 1 are 1 in 17, 6402 at 20 are 1 in 6401.
        WingHouse house = Check.houseOf(wing("deep 50", 425));
        house.ground(0, 10, 0, 1);
        CHECK.same("just 1 less", house.strip(0, 0, 1), 17 - 1);
        house = Check.houseOf(wing("deep 50", 424));
        house.ground(0, 10, 0, 1);
        CHECK.same("not yet 1 less", house.strip(0, 0, 1), 16);
        house.solve(0, 10, 0, false);
        CHECK.same("not in the open", house.strip(0, 0, 1), 16);
        house = Check.houseOf(wing("deep 50", -425));
        house.ground(0, 10, 0, 1);
        CHECK.same("just 1 more", house.strip(0, 0, 1), -17 + 1);
    }

    // ---- "Behind a LEADER .. at an OFFSET o of -20 .. 20": "deep being this WING's" ----

    private static void offsets() {
        long m = 14549535L;
        String pair = wing("deep 2000", 990, -400) + "wing x:1 z d 0,1 z d 0,1 z d 0 deep 50;";
        int[] s = {990, -1390, 400};
        for (int o = -20; o <= 20; o++) {
            WingHouse house = Check.houseOf(pair);
            house.solve(0, 10, 0, false);
            CHECK.yes("behind", house.follow(1, 10, 0, 0, o) > 0);
            for (int i = 0; i < 3; i++) {
                long sum = 0;
                for (int k = 0; k < 3; k++) {
                    sum += s[k] * m / (2 * (i - k - o) + 1);
                }
                CHECK.same("DOWN at " + o + " of " + i, house.strip(1, i, 1), sum / (m * 50));
            }
        }
    }

    /** "with its G's as they were last SOLVED by solve(), ground(), follow()", whatever its speed. */
    private static void leaders() {
        String three = "law a:-90-900,90 900;drag d:0 7,1 7;wing w:9 a d 0 deep 2000;wing x:1 a d 0 deep 50;"
                + "wing y:9 a d 0 deep 500;";
        WingHouse house = Check.houseOf(three);
        house.solve(0, 40, 10, false);
        int g = house.strip(0, 0, 0);
        house.follow(1, 1, 0, 0, 0);
        CHECK.same("led", house.strip(1, 0, 1), 2 * (g + house.strip(1, 0, 0)) / 50);
        int down = house.strip(1, 0, 1);
        house.ground(0, 1, -20, 1);
        CHECK.same("it stays as it was led", house.strip(1, 0, 1), down);
        g = house.strip(0, 0, 0);
        house.follow(1, 1, 0, 0, 0);
        CHECK.same("led by one over ground", house.strip(1, 0, 1), 2 * g / 50 + 2 * house.strip(1, 0, 0) / 50);
        // One that follows leads as well, and two may lead one another.
        CHECK.same("never solved", house.follow(0, 10, 5, 2, 0), -1);
        house.follow(2, 10, 5, 1, 3);
        CHECK.yes("led by one that follows", house.follow(1, 10, 5, 2, -3) > 0);
        CHECK.yes("led by one that it led", house.follow(2, 10, 5, 1, 0) > 0);
        // Trials leave a leader as it was last solved, and solve none.
        house = Check.houseOf(three);
        house.curve(0, 10, 0, 5);
        house.trims(0, 10, 0);
        house.fold(0, 10);
        house.best(0, 10, 5, 1, 0);
        CHECK.same("a curve does not solve it", house.follow(1, 10, 5, 0, 0), -1);
        CHECK.same("nor for solve on", house.solve(0, 10, 10, true), Check.houseOf(three).solve(0, 10, 10, false));
    }

    // ---- "BEND of i: without stiff 0, else (..) * v * v / (stiff * 1000)" ----

    private static void bends() {
        int[] g = {7, -20, 400};
        for (int stiff : new int[] {0, 1, 2, 999, 2000}) {
            for (int v : new int[] {1, 2, 39, 40}) {
                WingHouse house = Check.houseOf(wing("deep 2000 stiff " + stiff, g));
                house.solve(0, v, 0, false);
                long[] outward = {387, 387 + 380, 387 + 380 + 400};
                for (int i = 0; i < 3; i++) {
                    long due = stiff == 0 ? 0 : outward[i] * v * v / (stiff * 1000L);
                    CHECK.same("BEND by " + stiff + " at " + v + " of " + i, house.strip(0, i, 2), due);
                }
            }
        }
        WingHouse house = Check.houseOf(wing("deep 2000", g));
        house.solve(0, 40, 0, false);
        row("without stiff", house, 0, 2, 0, 0, 0);
        int[][] exact = {{999, 1, 0}, {1000 - 2, 2, 3}, {-998, 1, 0}, {-998, 2, -3}};
        for (int[] e : exact) {
            int of = e[0] == 999 ? 998 : e[0];
            house = Check.houseOf(wing("deep 2000 stiff 1", of));
            house.solve(0, e[1], 0, false);
            CHECK.same("BEND towards 0", house.strip(0, 0, 2), e[2]);
        }
        // 40 * 40 by 5 and by 625 thousandths: 25 is the first that bends.
        house = Check.houseOf(wing("deep 2000 stiff 40", 25));
        house.solve(0, 40, 0, false);
        CHECK.same("just 1", house.strip(0, 0, 2), 1);
        house = Check.houseOf(wing("deep 2000 stiff 40", 24));
        house.solve(0, 40, 0, false);
        CHECK.same("not yet 1", house.strip(0, 0, 2), 0);
        house = Check.houseOf(wing("deep 2000 stiff 40", -25));
        house.solve(0, 40, 0, false);
        CHECK.same("just -1", house.strip(0, 0, 2), -1);
    }

    // ---- "- sweep * BEND / 10", rounded towards 0 ----

    private static void sweeps() {
        // With the stiffness 160 and at 40 a G bends by a hundredth of itself.
        int[][] due = {{9, 100, 0}, {9, 199, 0}, {9, 200, -1}, {1, 900, 0}, {1, 990, 0}, {-1, 990, 0}, {-9, 200, 1},
            {-9, 199, 0}, {9, -200, 1}, {-9, -200, -1}, {9, -199, 0}, {0, 990, 0}, {-0, -990, 0}};
        for (int[] d : due) {
            WingHouse house = Check.houseOf(wing("deep 2000 stiff 160 sweep " + d[0], d[1]));
            house.solve(0, 40, 3, false);
            CHECK.same("BEND", house.strip(0, 0, 2), d[1] / 100);
            CHECK.same("ANGLE by " + d[0] + " and " + d[1], house.strip(0, 0, 3), 3 + d[2]);
        }
        WingHouse house = Check.houseOf(wing("deep 2000 stiff 80 sweep 1", 500));
        house.solve(0, 40, 3, false);
        CHECK.same("a tenth of 10", house.strip(0, 0, 3), 3 - 1);
        house = Check.houseOf(wing("deep 2000 stiff 80 sweep 1", 499));
        house.solve(0, 40, 3, false);
        CHECK.same("a tenth of 9", house.strip(0, 0, 3), 3);
    }

    // ---- "until one changes none (that one counts)" ----

    private static void rounds() {
        for (int y = -40; y <= 40; y++) {
            WingHouse house = Check.houseOf("law k:0 " + y + ",1 " + y + ";drag d:0 0,1 0;wing w:1 k d 0;");
            int g = 0;
            int due = 1;
            while ((y - g) / 2 != 0) {
                g += (y - g) / 2;
                due++;
            }
            CHECK.same("rounds to " + y, house.solve(0, 10, 0, false), due);
            CHECK.same("G by " + y, house.strip(0, 0, 0), g);
            CHECK.same("on to " + y, house.solve(0, 10, 0, true), 1);
            CHECK.same("ground to " + y, house.ground(0, 10, 0, 9), due);
        }
        // The wing is solved when its last strip is.
        WingHouse house = Check.houseOf(wing("", 0, 0, 0, 0, 0, 0, 0, 0, 0, 990));
        CHECK.same("the tenth strip's rounds", house.solve(0, 10, 0, false), 11);
        CHECK.same("its G", house.strip(0, 9, 0), 990);
    }

    // ---- "from rest: all 0; or on: as it was last SOLVED by these three in this TEXT, 0 at first" ----

    private static void fromRestOrOn() {
        // With the hinge up G comes from above to one more than its aim, from rest to one less.
        String text = "law k:-1 50,0 50,1 100,2 100;drag d:0 0,1 0;hinge h 2;wing w:1 k d 0 on h deep 2000;"
                + "wing v:1 k d 0 deep 2000;";
        WingHouse house = Check.houseOf(text, text);
        house.solve(0, 10, 0, true);
        row("0 at first", house, 0, 0, 49);
        house.hinge(0, 2);
        house.solve(0, 10, 0, false);
        row("up", house, 0, 0, 99);
        house.hinge(0, 0);
        house.solve(0, 10, 0, true);
        row("on from above", house, 0, 0, 51);
        house.solve(0, 10, 0, false);
        row("from rest", house, 0, 0, 49);
        house.ground(0, 10, 2, 9);
        house.solve(0, 10, 0, true);
        row("on from ground", house, 0, 0, 51);
        house.solve(1, 10, 0, false);
        house.follow(0, 10, 2, 1, 20);
        house.solve(0, 10, 0, true);
        row("on from behind a leader", house, 0, 0, 51);
        house.solve(0, 10, 2, false);
        house.ground(0, 10, 0, 9);
        row("ground is from rest", house, 0, 0, 49);
        house.solve(0, 10, 2, false);
        house.follow(0, 10, 0, 1, 20);
        row("behind a leader is from rest", house, 0, 0, 49);
        house.solve(0, 10, 2, false);
        house.curve(0, 10, 0, -5);
        house.solve(0, 10, 0, true);
        row("a curve is none of these three", house, 0, 0, 51);
        house.solve(0, 10, 2, false);
        house.use(0);
        house.solve(0, 10, 0, true);
        row("in this text, 0 at first", house, 0, 0, 49);
        house.use(1);
        house.solve(0, 10, 0, true);
        row("in its own text it stays", house, 0, 0, 51);
        house.solve(1, 10, 0, true);
        row("of each wing its own", house, 1, 0, 49);
        // Of ten strips each goes on from its own G.
        house = Check.houseOf("law k:-1 50,0 50,1 100,2 100;drag d:0 0,1 0;hinge h 2;wing w:1 k d 0 on h"
                + ",1 k d 0 on h".repeat(9) + " deep 2000;");
        house.hinge(0, 2);
        house.solve(0, 10, 0, false);
        row("ten up", house, 0, 0, 99, 99, 99, 99, 99, 99, 99, 99, 99, 99);
        house.hinge(0, 0);
        house.solve(0, 10, 0, true);
        row("ten on from above", house, 0, 0, 51, 51, 51, 51, 51, 51, 51, 51, 51, 51);
        house.curve(0, 10, 2, 0);
        CHECK.same("ten on a curve", house.lift(0), 510);
    }

    // ---- "if the 120th changes one: UNSETTLED (all as last SOLVED stays)" ----

    private static void unsettledStays() {
        String leaps = "law j:-5-100,0 0,1 999;drag d:0 7,1 7;wing w:9 j d 0 deep 2000;wing x:9 j d 0 deep 2000;"
                + "bar b if speed==7;bar c if slant==0-5;";
        WingHouse house = Check.houseOf(leaps);
        CHECK.same("unsettled", house.solve(0, 10, 1, false), -2);
        CHECK.same("never", house.strip(0, 0, 0), -1000000);
        CHECK.same("never", house.edge(0, 0), -1000000);
        CHECK.same("never", house.force(0, 0), NO_FORCE);
        CHECK.same("never", house.barred(0), -1);
        CHECK.same("never", house.where(0), -1);
        CHECK.same("no leader by it", house.follow(1, 10, -5, 0, 0), -1);
        CHECK.same("on from 0", house.solve(0, 10, -5, true), house.solve(1, 10, -5, false));
        for (int way = 0; way < 3; way++) {
            house.solve(0, 9, -5, false);
            CHECK.same("unsettled", way == 0 ? house.solve(0, 7, 1, true) : way == 1 ? house.ground(0, 7, 1, 20)
                    : house.follow(0, 7, 1, 1, 20), -2);
            CHECK.same("G", house.strip(0, 0, 0), -899);
            CHECK.same("DOWN", house.strip(0, 0, 1), 0);
            CHECK.same("ANGLE", house.strip(0, 0, 3), -5);
            CHECK.same("edge", house.edge(0, 1), 899);
            CHECK.same("LIFT", house.force(0, 0), -899 * 81 / 100);
            CHECK.same("DRAG", house.force(0, 1), 63 * 81 / 100);
            CHECK.same("barred", house.barred(0), 1);
            CHECK.same("where", house.where(0), 0);
            CHECK.yes("a leader still", house.follow(1, 10, -5, 0, 20) > 0);
        }
    }

    // ---- LIFT, DRAG, TURN: each / 100 rounded towards 0, at the least and the greatest SPEED ----

    private static void forces() {
        int[] sums = {99, 100, 199, 200, -99, -100, -199, -200, 0, 1};
        for (int sum : sums) {
            WingHouse house = Check.houseOf(wing("deep 2000", sum, 0));
            for (int v : new int[] {1, 9, 10, 11, 40}) {
                house.solve(0, v, 0, false);
                CHECK.same("LIFT of " + sum + " at " + v, house.force(0, 0), sum * v * v / 100);
                CHECK.same("TURN of " + sum + " at " + v, house.force(0, 2), -sum * v * v / 100);
            }
        }
        // DRAG of the shape alone, then with that of the air turned down: 998 * 1 / 57 is 17.
        for (int shape : new int[] {49, 50, -49, -50, 99, -99}) {
            WingHouse house = Check.houseOf("law z:0 0,1 0;drag d:0 " + shape + ",1 " + shape + ";wing w:2 z d 0;");
            house.solve(0, 1, 0, false);
            CHECK.same("DRAG of " + shape, house.force(0, 1), 2 * shape / 100);
            house.solve(0, 40, 0, false);
            CHECK.same("DRAG of " + shape + " at 40", house.force(0, 1), 2 * shape * 16);
        }
        int[][] air = {{56, 112, 0}, {57, 114, 1}, {113, 226, 1}, {114, 228, 2}, {-57, 114, 1}, {-56, 112, 0}};
        for (int[] a : air) {
            WingHouse house = Check.houseOf(wing("deep " + a[1], a[0]));
            house.solve(0, 10, 0, false);
            CHECK.same("DOWN", house.strip(0, 0, 1), Integer.signum(a[0]));
            CHECK.same("DRAG by the air of " + a[0], house.force(0, 1), a[2]);
        }
        // TURN of three, the middle one without.
        WingHouse house = Check.houseOf(wing("deep 2000", 30, 500, 80));
        house.solve(0, 10, 0, false);
        CHECK.same("TURN of three", house.force(0, 2), 2 * (80 - 30));
        house = Check.houseOf(wing("deep 2000", 1, 0, 0, 0, 0, 0, 0, 0, 0, 0));
        house.solve(0, 10, 0, false);
        CHECK.same("TURN of the first of ten", house.force(0, 2), -9);
        house = Check.houseOf(wing("deep 2000", 0, 0, 0, 0, 0, 0, 0, 0, 0, 1));
        house.solve(0, 10, 0, false);
        CHECK.same("TURN of the last of ten", house.force(0, 2), 9);
    }

    /** Over ground and behind a leader it is the SPEED of those that counts. */
    private static void forcesOfOthers() {
        String text = wing("deep 2000 stiff 20", 500, 20) + "wing x:1 z d 0;bar b if speed==7;bar c if speed==40;";
        WingHouse house = Check.houseOf(text);
        house.solve(1, 9, 0, false);
        for (int way = 0; way < 3; way++) {
            for (int v : new int[] {7, 40, 11, 1}) {
                for (int s : new int[] {-30, 3}) {
                    CHECK.yes("solved", way == 0 ? house.solve(0, v, s, false) > 0 : way == 1
                            ? house.ground(0, v, s, 20) > 0 : house.follow(0, v, s, 1, 20) > 0);
                    CHECK.same("LIFT at " + v, house.force(0, 0), 520 * v * v / 100);
                    CHECK.same("DRAG at " + v, house.force(0, 1), 0);
                    CHECK.same("TURN at " + v, house.force(0, 2), -480 * v * v / 100);
                    CHECK.same("BEND at " + v, house.strip(0, 1, 2), 540 * v * v / 20000);
                    CHECK.same("BARRED at " + v, house.barred(0), v == 7 ? 0 : v == 40 ? 1 : -2);
                    CHECK.same("ANGLE at " + v, house.strip(0, 1, 3), s);
                }
            }
        }
        house.best(0, 13, 0, 1, -1000000);
        house.curve(0, 14, 0, 5);
        CHECK.same("as last solved", house.force(0, 0), 5);
    }

    // ---- "the first BAR that holds at the first STRIP at which one does (by STRIPS, then by BARS)" ----

    private static void firstStripThenBar() {
        for (int strip = 0; strip < 10; strip++) {
            for (int bar = 0; bar < 8; bar++) {
                StringBuilder text = new StringBuilder(FLAT + "wing w:1 z d 0" + ",1 z d 0".repeat(9) + ";");
                for (int b = 0; b < 8; b++) {
                    // The bar that is due holds at its strip, those ahead behind it, those behind it there too.
                    text.append("bar b").append((char) ('a' + b)).append(" if at").append(b < bar ? "==" : "<=")
                            .append(b < bar ? strip + 1 : strip).append(b < bar ? "" : " and " + strip + "<=at")
                            .append(';');
                }
                WingHouse house = Check.houseOf(text.toString());
                house.solve(0, 10, 0, false);
                CHECK.same("barred by " + bar + " at " + strip, house.barred(0), bar);
                CHECK.same("barred at " + strip + " by " + bar, house.where(0), strip);
            }
        }
        WingHouse house = Check.houseOf(wing("", 1, 2, 3));
        house.solve(0, 10, 0, false);
        CHECK.same("no bars", house.barred(0), -2);
        CHECK.same("no bars", house.where(0), -2);
        house = Check.houseOf(wing("", 1, 2, 3) + "bar b if 3<=at;bar c if at<0;");
        house.solve(0, 10, 0, false);
        CHECK.same("by none", house.barred(0), -2);
        CHECK.same("nowhere", house.where(0), -2);
    }

    /** Where a condition holds first, of three strips of the widths 1, 9, 2. */
    private static void holds(String condition, int due) {
        WingHouse house = Check.houseOf("law k:0 101,1 101;drag d:0 7,1 7;hinge h 5;"
                + "wing w:1 k d-30,9 k d 30 on h,2 k d 0 deep 50 stiff 10 sweep 1;bar b if " + condition + ";");
        house.hinge(0, 5);
        house.solve(0, 40, 0, false);
        CHECK.same("where " + condition, house.where(0), due);
        CHECK.same("barred by " + condition, house.barred(0), due < 0 ? -2 : 0);
    }

    /** Each sign of a comparison with less, as much, and more on its left. */
    private static void comparisons() {
        String[] signs = {"<", "<=", "==", "!="};
        for (int a = 0; a < 3; a++) {
            for (int b = 0; b < 3; b++) {
                boolean[] due = {a < b, a <= b, a == b, a != b};
                for (int i = 0; i < 4; i++) {
                    holds(a + signs[i] + b, due[i] ? 0 : -2);
                    holds("not " + a + signs[i] + b, due[i] ? -2 : 0);
                    holds((a + "-1") + signs[i] + (b + "-1"), due[i] ? 0 : -2);
                }
            }
        }
    }

    // ---- COND: ALL {'or' ALL}. ALL: LIT {'and' LIT} ----

    private static void rowsOfLits() {
        for (int bits = 0; bits < 32; bits++) {
            boolean[] lit = new boolean[5];
            String[] text = new String[5];
            for (int i = 0; i < 5; i++) {
                lit[i] = (bits >> i & 1) == 1;
                text[i] = lit[i] ? "1==1" : "1==2";
            }
            holds(String.join(" or ", text), bits != 0 ? 0 : -2);
            holds(String.join(" and ", text), bits == 31 ? 0 : -2);
            holds(text[0] + " and " + text[1] + " or " + text[2] + " or " + text[3] + " and " + text[4],
                    lit[0] && lit[1] || lit[2] || lit[3] && lit[4] ? 0 : -2);
            holds(text[0] + " or " + text[1] + " and " + text[2] + " and not " + text[3] + " or " + text[4],
                    lit[0] || lit[1] && lit[2] && !lit[3] || lit[4] ? 0 : -2);
        }
    }

    // ---- "slant: ANGLE; lift: G; width, twist; at: i; speed: v; bend; down" ----

    private static void variables() {
        WingHouse house = Check.houseOf("law k:0 101,1 101;drag d:0 7,1 7;hinge h 5;"
                + "wing w:1 k d-30,9 k d 30 on h,2 k d 0 deep 50 stiff 10 sweep 1;");
        house.hinge(0, 5);
        house.solve(0, 40, 0, false);
        String[] names = {"lift", "down", "bend", "slant"};
        for (int i = 0; i < 3; i++) {
            for (int what = 0; what < 4; what++) {
                int value = house.strip(0, i, what);
                holds(names[what] + "==0+" + (value < 0 ? "0-" + -value : "" + value) + " and at==" + i, i);
                holds(names[what] + "!=0+" + (value < 0 ? "0-" + -value : "" + value) + " and at==" + i, -2);
            }
        }
        int[] widths = {1, 9, 2};
        int[] twists = {-30, 30, 0};
        for (int i = 0; i < 3; i++) {
            holds("width==" + widths[i], i);
            holds("twist+30==" + (twists[i] + 30), i);
            holds("at==" + i, i);
        }
        holds("speed==40", 0);
        holds("speed!=40", -2);
    }

    // ---- "32 bits that wrap, / rounded towards 0" ----

    private static void wrapping() {
        String big = "(8192*8192*16)";
        holds(big + "/1024==1024*1024", 0);
        holds(big + "*2<0", 0);
        holds(big + "*2/2==0-" + big, 0);
        holds(big + "*2-1==" + big + "-1+" + big, 0);
        holds("0<" + big + "*2-1", 0);
        holds(big + "*2==0-" + big + "*2", 0);
        holds(big + "*4==0", 0);
        holds(big + "*3==0-" + big, 0);
        holds("0-" + big + "*2-1==" + big + "*2-1", 0);
        holds(big + "*2/(0-1)==" + big + "*2", 0);
        holds(big + "*2/(0-1)<0", 0);
        holds("9999*9999*9999<0", (int) (9999L * 9999 * 9999) < 0 ? 0 : -2);
        holds("7/2==3", 0);
        holds("(0-7)/2==0-3", 0);
        holds("7/(0-2)==0-3", 0);
        holds("(0-7)/(0-2)==3", 0);
        holds("1/2+1/2==0", 0);
        holds("0/9999==0", 0);
    }

    // ---- "a LIT with a division by 0 anywhere in it does not hold, its not does" ----

    private static void divisionsByZero() {
        for (String lit : new String[] {"1/0==1", "1/0!=1", "1/0<1", "1/0<=1", "1==1/0", "1!=1/0", "0<1/0", "0<=1/0",
            "0/0==0", "0*(1/0)==0", "1/0*0==0", "1+2*(3-(4/(5-5)))!=7", "1/0==1/0", "0/(at-at)==0", "1/(1/2)!=5",
            "1/(3/(0))==0", "2-(1/0)<9999", "1!=1+1/(twist-twist)", "1/0/1!=7", "1/0+4/2!=7", "4/2+1/0!=7", "1/0!=4/2",
            "4/2!=1/0", "4/2/0/1!=7", "(1/0)-(4/2)<9"}) {
            holds(lit, -2);
            holds("not " + lit, 0);
            holds("not not " + lit, -2);
            holds("not not not " + lit, 0);
            holds(lit + " or 1==1", 0);
            holds("1==1 or " + lit, 0);
            holds(lit + " or at==2", 2);
            holds("at==1 or " + lit, 1);
            holds(lit + " and 1==1", -2);
            holds("1==1 and " + lit, -2);
            holds("not " + lit + " and at==2", 2);
            holds("at==2 and not " + lit, 2);
            holds(lit + " or " + lit, -2);
            holds("not " + lit + " and not " + lit, 0);
        }
        // By a variable that is 0 at some strips alone.
        holds("1/at==1", 1);
        holds("0<=1/at", 1);
        holds("not 0<=1/at", 0);
        holds("9/(2-at)==9", 1);
        holds("not 9/(2-at)<99", 2);
        // What is divided by 0 in one LIT does nothing to the next, nor in one bar.
        WingHouse house = Check.houseOf(FLAT + "wing w:1 z d 0;bar b if 1/0==1;bar c if 1==1;");
        house.solve(0, 10, 0, false);
        CHECK.same("the next bar", house.barred(0), 1);
    }
}
