import java.util.function.Supplier;
import java.util.function.ToLongFunction;

/**
 * Every call that the document refuses, on both sides of what it takes: what is answered, and that nothing happens
 * by it; and the last ones that are taken.
 */
public final class RefusedCallsTest {
    private static final Check CHECK = new Check();
    private static final int LEAST = Integer.MIN_VALUE;
    private static final int MOST = Integer.MAX_VALUE;
    private static final long NO_FORCE = -1000000000000L;

    private static final String RICH = "law a:-20-200,20 200;law c:-9-90,9 90;drag d:-20 20,20 20;hinge f 20;hinge g 1;"
            + "wing w:1 a d 0,2 c d 1 on f;wing x:1 a d 0 on g deep 60 mass 9 9 9 9;"
            + "wing y:1 a d 2,1 a d 0,1 a d 0,1 a d 0,1 a d 0;bar b if twist==1;bar e if at==7;";
    private static final String OTHER = "law a:-20-200,20 200;drag d:-20 20,20 20;hinge f 3;wing w:1 a d 0 on f;";
    private static final String LEAPS = "law j:-5-100,0 0,1 999;drag d:0 7,1 7;wing w:9 j d 0 deep 2000;"
            + "wing x:9 j d 0 deep 2000 mass 1 1 1 1;";

    private static String base = "";
    private static Supplier<WingHouse> make = WingHouse::new;

    public static void main(String[] args) {
        standing("a new object", WingHouse::new);
        ofTape(0);
        withoutText();
        ofRunsAlone();
        standing("two texts", RefusedCallsTest::rich);
        ofTape(14);
        ofTexts(2);
        ofText();
        ofSolving();
        ofSolved();
        ofTrials();
        ofRuns(3, 4);
        ofRunsAlone();
        standing("all places taken", RefusedCallsTest::full);
        ofTape(1981);
        allTaken();
        ofTexts(4);
        ofRuns(58, 60);
        standing("unsettled ones", RefusedCallsTest::leaping);
        unsettled();
        standing("places short of all", RefusedCallsTest::nearlyFull);
        lastPlaces();
        CHECK.end("RefusedCallsTest");
    }

    // ---- the houses ----

    /** Two texts, a fault's place, a tape begun, wings solved, a curve and the best remembered, runs and a void. */
    private static WingHouse rich() {
        WingHouse house = Check.houseOf(RICH, OTHER, "hinge h 99;");
        house.use(0);
        Check.feed(house, "law q:0 0,1 1;");
        house.gust(0, 2);
        house.gust(1, -1);
        house.hinge(0, 5);
        house.hinge(1, -1);
        house.solve(0, 12, 4, false);
        house.ground(1, 14, 2, 3);
        house.curve(0, 10, -2, 6);
        house.best(0, 10, 4, 3, -5);
        house.run(0, 10, 4, 100, 0);
        house.run(0, 11, 5, 200, 100);
        house.run(1, 12, 6, 300, 200);
        house.annul(1);
        return house;
    }

    private static WingHouse full() {
        WingHouse house = Check.houseOf("hinge h 99;", RICH, OTHER, OTHER, OTHER);
        house.use(0);
        house.solve(0, 12, 4, false);
        for (int i = 0; i < 59; i++) {
            house.run(0, 10, 4, 100, 0);
        }
        house.annul(58);
        for (int i = 0; i < 100; i++) {
            house.feed(0, 0, 0, 0, 0);
        }
        house.back(19);
        return house;
    }

    /** One text, one row of runs and nineteen bytes more would be too many. */
    private static WingHouse nearlyFull() {
        WingHouse house = Check.houseOf(OTHER, OTHER, OTHER);
        for (int i = 0; i < 59; i++) {
            house.run(0, 10, 4, 100, 0);
        }
        for (int i = 0; i < 99; i++) {
            house.feed(0x20202020, 0x20202020, 0x20202020, 0x20202020, 0x20202020);
        }
        return house;
    }

    private static WingHouse leaping() {
        WingHouse house = Check.houseOf(LEAPS);
        house.solve(0, 10, -5, false);
        house.solve(1, 10, -5, false);
        house.curve(0, 10, -5, 0);
        house.best(0, 10, -5, 1, -99999);
        return house;
    }

    // ---- how it is asked ----

    private static void standing(String name, Supplier<WingHouse> houses) {
        base = name + ": ";
        make = houses;
    }

    private static void refused(String what, ToLongFunction<WingHouse> call, long due) {
        Seen.nothing(CHECK, base + what, make, call, due);
    }

    private static void taken(String what, ToLongFunction<WingHouse> call, long due) {
        CHECK.same(base + what, call.applyAsLong(make.get()), due);
    }

    private static void settled(String what, ToLongFunction<WingHouse> call) {
        CHECK.yes(base + what, call.applyAsLong(make.get()) > 0);
    }

    private static long bit(boolean answer) {
        return answer ? 1 : 0;
    }

    // ---- the calls ----

    private static void ofTape(int bytes) {
        for (int n : new int[] {-1, LEAST, bytes + 1, MOST}) {
            refused("back " + n, h -> h.back(n), -1);
        }
        refused("back 0", h -> h.back(0), bytes);
        taken("back all", h -> h.back(bytes), 0);
        taken("back all but one", h -> h.back(Math.max(0, bytes - 1)), Math.min(bytes, 1));
    }

    private static void withoutText() {
        for (int n : new int[] {0, 1, -1, LEAST, MOST}) {
            refused("use " + n, h -> bit(h.use(n)), 0);
            refused("law " + n, h -> h.law(n, 0), -1000000);
            refused("hinge " + n, h -> bit(h.hinge(n, 0)), 0);
            refused("solve " + n, h -> h.solve(n, 1, 0, false), -1);
            refused("solve on " + n, h -> h.solve(n, 1, 0, true), -1);
            refused("ground " + n, h -> h.ground(n, 1, 0, 1), -1);
            refused("follow " + n, h -> h.follow(n, 1, 0, 1 - n, 0), -1);
            refused("strip " + n, h -> h.strip(n, 0, 0), -1000000);
            refused("edge " + n, h -> h.edge(n, 0), -1000000);
            refused("force " + n, h -> h.force(n, 0), NO_FORCE);
            refused("barred " + n, h -> h.barred(n), -1);
            refused("where " + n, h -> h.where(n), -1);
            refused("curve " + n, h -> h.curve(n, 1, 0, 0), -101);
            refused("lift " + n, h -> h.lift(n), NO_FORCE);
            refused("trims " + n, h -> h.trims(n, 1, 0), -1);
            refused("trim " + n, h -> h.trim(n, 1, 0, 0), -101);
            refused("stays " + n, h -> h.stays(n, 1, 0, 0), -1);
            refused("fold " + n, h -> h.fold(n, 0), -1);
            refused("shakes " + n, h -> h.shakes(n, 1, 0), -1);
            refused("shake " + n, h -> h.shake(n, 0), -1);
            refused("best " + n, h -> h.best(n, 1, 0, 0, 0), NO_FORCE);
            refused("twist " + n, h -> h.twist(n), -1000);
            refused("annul " + n, h -> h.annul(n), -1);
            refused("right " + n, h -> h.right(n), -1000000000);
            refused("fits " + n, h -> h.fits(n, 0), -1);
            refused("out " + n, h -> h.out(n, 0), -1);
        }
        refused("place", h -> h.place(), -1);
        for (int what : new int[] {1, 3, 4, 5, 6, 8, 9, 10, 11, 12, 13, 14, -1, LEAST, MOST}) {
            refused("count " + what, h -> h.count(what), -1);
        }
        refused("count of texts", h -> h.count(0), 0);
        refused("count of runs", h -> h.count(2), 0);
        refused("count of bytes", h -> h.count(7), 0);
        for (int wing = 0; wing < 4; wing++) {
            int w = wing;
            refused("next " + w, h -> h.next(w, 0), -2);
        }
        taken("gust needs no text", h -> bit(h.gust(0, 30)), 1);
        taken("run needs no text", h -> h.run(0, 1, 0, 0, 0), 0);
    }

    private static void ofRunsAlone() {
        int[][] wrong = {{-1, 1, 0, 0, 0}, {4, 1, 0, 0, 0}, {5, 1, 0, 0, 0}, {LEAST, 1, 0, 0, 0}, {MOST, 1, 0, 0, 0},
            {0, 0, 0, 0, 0}, {0, -1, 0, 0, 0}, {0, 41, 0, 0, 0}, {0, LEAST, 0, 0, 0}, {0, MOST, 0, 0, 0},
            {0, 1, -31, 0, 0}, {0, 1, 31, 0, 0}, {0, 1, LEAST, 0, 0}, {0, 1, MOST, 0, 0}, {0, 1, 0, -1000001, 0},
            {0, 1, 0, 1000001, 0}, {0, 1, 0, LEAST, 0}, {0, 1, 0, MOST, 0}, {0, 1, 0, 0, -1}, {0, 1, 0, 0, 501},
            {0, 1, 0, 0, LEAST}, {0, 1, 0, 0, MOST}};
        for (int[] w : wrong) {
            refused("run " + java.util.Arrays.toString(w), h -> h.run(w[0], w[1], w[2], w[3], w[4]), -1);
        }
        int known = make.get().count(2);
        int[][] last = {{0, 1, -30, -1000000, 0}, {3, 40, 30, 1000000, 500}, {1, 2, 0, 0, 1}};
        for (int[] t : last) {
            taken("run " + java.util.Arrays.toString(t), h -> h.run(t[0], t[1], t[2], t[3], t[4]), known);
        }
        for (int i : new int[] {-1, 10, 11, LEAST, MOST}) {
            refused("gust at " + i, h -> bit(h.gust(i, 0)), 0);
        }
        for (int g : new int[] {-31, 31, LEAST, MOST}) {
            refused("gust of " + g, h -> bit(h.gust(0, g)), 0);
            refused("gust of " + g + " at 9", h -> bit(h.gust(9, g)), 0);
        }
        for (int i = 0; i < 10; i++) {
            int strip = i;
            taken("gust least at " + i, h -> bit(h.gust(strip, -30)), 1);
            taken("gust most at " + i, h -> bit(h.gust(strip, 30)), 1);
        }
    }

    private static void ofTexts(int texts) {
        for (int n : new int[] {-1, texts, texts + 1, LEAST, MOST}) {
            refused("use " + n, h -> bit(h.use(n)), 0);
            refused("fits " + n, h -> h.fits(n, 0), -1);
            refused("out " + n, h -> h.out(n, 0), -1);
        }
        taken("use the first", h -> bit(h.use(0)), 1);
        taken("use the last", h -> bit(h.use(texts - 1)), 1);
        refused("use the one at hand", h -> bit(h.use(0)), 1);
        taken("out of the last", h -> h.out(texts - 1, 0), -2);
    }

    private static void ofText() {
        for (int k : new int[] {-1, 3, 4, 7, 8, LEAST, MOST}) {
            refused("law " + k, h -> h.law(k, 0), -1000000);
        }
        for (int x : new int[] {-1001, 1001, LEAST, MOST}) {
            refused("law at " + x, h -> h.law(0, x), -1000000);
            refused("last law at " + x, h -> h.law(2, x), -1000000);
        }
        taken("law at least", h -> h.law(0, -1000), -200);
        taken("law at most", h -> h.law(0, 1000), 200);
        taken("last law", h -> h.law(2, 0), 20);
        for (int k : new int[] {-1, 2, 3, 4, LEAST, MOST}) {
            refused("hinge " + k, h -> bit(h.hinge(k, 0)), 0);
        }
        for (int a : new int[] {-21, 21, LEAST, MOST}) {
            refused("hinge to " + a, h -> bit(h.hinge(0, a)), 0);
        }
        for (int a : new int[] {-2, 2, -20, 20}) {
            refused("narrow hinge to " + a, h -> bit(h.hinge(1, a)), 0);
        }
        for (int side = -1; side <= 1; side++) {
            int s = side;
            taken("hinge to " + 20 * s, h -> bit(h.hinge(0, 20 * s)), 1);
            taken("narrow hinge to " + s, h -> bit(h.hinge(1, s)), 1);
        }
        int[] due = {2, 0, 4, 3, 2, 3, 2, 14, -1, -1, 2, 1, 5, -1, -1};
        for (int what = 0; what < due.length; what++) {
            int w = what;
            refused("count " + what, h -> h.count(w), due[w]);
        }
        for (int what : new int[] {-1, LEAST, MOST}) {
            refused("count " + what, h -> h.count(what), -1);
        }
        refused("place", h -> h.place(), 8);
    }

    private static void ofSolving() {
        for (int wing : new int[] {-1, 3, 4, LEAST, MOST}) {
            solving("wing " + wing, wing, 10, 3);
        }
        for (int v : new int[] {0, -1, 41, LEAST, MOST}) {
            solving("speed " + v, 0, v, 3);
        }
        for (int s : new int[] {-31, 31, LEAST, MOST}) {
            solving("slant " + s, 0, 10, s);
        }
        for (int height : new int[] {0, -1, 21, LEAST, MOST}) {
            refused("ground of " + height, h -> h.ground(0, 10, 3, height), -1);
        }
        for (int o : new int[] {-21, 21, LEAST, MOST}) {
            refused("follow at " + o, h -> h.follow(0, 10, 3, 1, o), -1);
        }
        for (int leader : new int[] {-1, 3, 4, LEAST, MOST}) {
            refused("follow " + leader, h -> h.follow(0, 10, 3, leader, 0), -1);
        }
        refused("its own leader", h -> h.follow(0, 10, 3, 0, 0), -1);
        refused("a leader never solved", h -> h.follow(0, 10, 3, 2, 0), -1);
        refused("its own leader, never solved", h -> h.follow(2, 10, 3, 2, 0), -1);
        for (int v : new int[] {1, 40}) {
            for (int s : new int[] {-30, 30}) {
                settled("solve " + v + " " + s, h -> h.solve(2, v, s, false));
                settled("solve on " + v + " " + s, h -> h.solve(2, v, s, true));
                settled("ground " + v + " " + s, h -> h.ground(2, v, s, 1));
                settled("high " + v + " " + s, h -> h.ground(2, v, s, 20));
                settled("follow " + v + " " + s, h -> h.follow(2, v, s, 0, -20));
                settled("follow far " + v + " " + s, h -> h.follow(2, v, s, 1, 20));
            }
        }
    }

    private static void solving(String what, int wing, int v, int s) {
        refused("solve " + what, h -> h.solve(wing, v, s, false), -1);
        refused("solve on " + what, h -> h.solve(wing, v, s, true), -1);
        refused("ground " + what, h -> h.ground(wing, v, s, 1), -1);
        refused("follow " + what, h -> h.follow(wing, v, s, 1, 0), -1);
        refused("curve " + what, h -> h.curve(wing, v, s, 0), -101);
        refused("curve to " + what, h -> h.curve(wing, v, 0, s), -101);
        refused("best " + what, h -> h.best(wing, v, s, 1, -99999), NO_FORCE);
        if (s == 3) {
            refused("trims " + what, h -> h.trims(wing, v, 0), -1);
            refused("trim " + what, h -> h.trim(wing, v, 0, 0), -101);
            refused("stays " + what, h -> h.stays(wing, v, 0, 0), -1);
        }
        if (v == 10) {
            refused("fold " + what, h -> h.fold(wing, s), -1);
        }
        int heavy = wing == 0 ? 1 : wing;
        refused("shakes " + what, h -> h.shakes(heavy, v, s), -1);
        if (v == 10) {
            refused("shake " + what, h -> h.shake(heavy, s), -1);
        }
    }

    private static void ofSolved() {
        for (int wing : new int[] {2, 3, 4, -1, LEAST, MOST}) {
            refused("strip of " + wing, h -> h.strip(wing, 0, 0), -1000000);
            refused("edge of " + wing, h -> h.edge(wing, 0), -1000000);
            refused("force of " + wing, h -> h.force(wing, 0), NO_FORCE);
            refused("barred " + wing, h -> h.barred(wing), -1);
            refused("where " + wing, h -> h.where(wing), -1);
        }
        for (int i : new int[] {-1, 2, 3, 9, 10, 11, LEAST, MOST}) {
            refused("strip " + i, h -> h.strip(0, i, 0), -1000000);
        }
        for (int k : new int[] {-1, 3, 4, 10, 11, 12, LEAST, MOST}) {
            refused("edge " + k, h -> h.edge(0, k), -1000000);
        }
        for (int what : new int[] {-1, 4, 5, LEAST, MOST}) {
            refused("strip what " + what, h -> h.strip(0, 0, what), -1000000);
        }
        for (int what : new int[] {-1, 3, 4, LEAST, MOST}) {
            refused("force what " + what, h -> h.force(0, what), NO_FORCE);
        }
        for (int what = 0; what < 4; what++) {
            int w = what;
            CHECK.yes("last strip what " + what, make.get().strip(0, 1, w) != -1000000);
            CHECK.yes("last edge " + what, make.get().edge(0, Math.min(w, 2)) != -1000000);
            CHECK.yes("force " + what, make.get().force(1, Math.min(w, 2)) != NO_FORCE);
        }
    }

    private static void ofTrials() {
        for (int s : new int[] {-3, 7, -31, 31, LEAST, MOST}) {
            refused("lift " + s, h -> h.lift(s), NO_FORCE);
        }
        CHECK.yes("lift of the first", make.get().lift(-2) != NO_FORCE);
        CHECK.yes("lift of the last", make.get().lift(6) != NO_FORCE);
        for (int i : new int[] {-1, 1, 2, 60, 61, LEAST, MOST}) {
            refused("trim " + i, h -> h.trim(0, 10, 0, i), -101);
            refused("stays " + i, h -> h.stays(0, 10, 0, i), -1);
        }
        refused("trims", h -> h.trims(0, 10, 0), 1);
        refused("stays", h -> h.stays(0, 10, 0, 0), 1);
        refused("no mass", h -> h.shakes(0, 10, 3), -1);
        refused("no mass at any", h -> h.shake(0, 3), -1);
        for (int strips : new int[] {4, 5, 8, 512, 1024, -1, -2, LEAST, MOST}) {
            refused("best of " + strips, h -> h.best(0, 10, 4, strips, -99999), NO_FORCE);
        }
        refused("best of five", h -> h.best(2, 10, 4, 31, -99999), NO_FORCE);
        refused("best of a sixth", h -> h.best(2, 10, 4, 32, -99999), NO_FORCE);
        for (int strips : new int[] {0, 15, 30, 16}) {
            CHECK.yes("best of " + strips, make.get().best(2, 10, 4, strips, -99999) >= 0);
        }
        for (int i : new int[] {-1, 2, 9, 10, LEAST, MOST}) {
            refused("twist " + i, h -> h.twist(i), -1000);
        }
        CHECK.yes("twist of the first", make.get().twist(0) != -1000);
        CHECK.yes("twist of the last", make.get().twist(1) != -1000);
        refused("shakes", h -> h.shakes(1, 10, 3), 0);
        refused("fold", h -> h.fold(0, 3), -2);
    }

    /** The number of a void, and how many rows there are. */
    private static void ofRuns(int ofVoid, int rows) {
        int empty = rows == 60 ? 59 : ofVoid;
        for (int run : new int[] {-1, empty, rows, rows + 1, LEAST, MOST}) {
            refused("annul " + run, h -> h.annul(run), -1);
            refused("right " + run, h -> h.right(run), -1000000000);
            refused("fits " + run, h -> h.fits(0, run), -1);
        }
        for (int n : new int[] {-1, rows + 1, LEAST, MOST}) {
            refused("out by " + n, h -> h.out(0, n), -1);
            refused("next by " + n, h -> h.next(0, n), -10000);
        }
        for (int wing : new int[] {-1, 4, 5, LEAST, MOST}) {
            refused("next of " + wing, h -> h.next(wing, 0), -10000);
        }
        refused("next of the last wing", h -> h.next(3, rows), -2);
        CHECK.yes("out by all", make.get().out(0, rows) != -1);
        CHECK.yes("next by all", make.get().next(0, rows) != -10000);
        CHECK.yes("right of the first", make.get().right(0) != -1000000000);
        CHECK.yes("right of the last", make.get().right(ofVoid - 1) != -1000000000);
        CHECK.yes("fits the last", make.get().fits(0, ofVoid - 1) != -1);
    }

    private static void allTaken() {
        refused("read", h -> h.read(), -2);
        refused("place stays", h -> h.place(), -1);
        refused("feed", h -> h.feed(0, 0, 0, 0, 0), -1);
        refused("run", h -> h.run(0, 1, 0, 0, 0), -1);
        refused("annul", h -> h.annul(0), -1);
        refused("annul a run that is void", h -> h.annul(58), -1);
        // Where both could be told, it is NONE.
        refused("a wrong run", h -> h.run(4, 1, 0, 0, 0), -1);
        refused("no run", h -> h.annul(60), -1);
    }

    private static void lastPlaces() {
        taken("feed to the last byte", h -> h.feed(0, 0, 0, 0, 0), 2000);
        taken("the last run", h -> h.run(0, 1, 0, 0, 0), 59);
        taken("the last void", h -> h.annul(58), 59);
        taken("the last text", h -> h.read(), 0);
        taken("the last text's number", h -> h.read() + h.count(1), 3);
        refused("annul none", h -> h.annul(59), -1);
    }

    /** As last SOLVED all stays, and what is remembered stays too. */
    private static void unsettled() {
        for (int v : new int[] {1, 10, 40}) {
            refused("solve at " + v, h -> h.solve(0, v, 1, false), -2);
            refused("solve on at " + v, h -> h.solve(0, v, 1, true), -2);
            refused("ground at " + v, h -> h.ground(0, v, 1, 20), -2);
            refused("follow at " + v, h -> h.follow(0, v, 1, 1, 20), -2);
            refused("shakes at " + v, h -> h.shakes(1, v, 1), -2);
        }
        refused("fold", h -> h.fold(0, 1), 1);
        refused("shake", h -> h.shake(1, 1), -2);
        // Where NONE and -2 could both be told, it is NONE.
        refused("no mass and unsettled", h -> h.shakes(0, 10, 1), -1);
        refused("no mass and at none", h -> h.shake(0, 1), -1);
        refused("its own leader and unsettled", h -> h.follow(0, 10, 1, 0, 0), -1);
        refused("trims", h -> h.trims(0, 10, 5), 0);
    }
}
