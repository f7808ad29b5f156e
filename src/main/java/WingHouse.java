import java.util.Arrays;

/** A house of wings in whole numbers; what each method answers is told in DOC.md. */
public final class WingHouse {
    public static final int NONE = -1;

    private static final int UNSETTLED = -2;
    private static final int NO_VALUE = -1000000;
    private static final int NO_RIGHT = -1000000000;
    private static final int NO_CURVE = -101;
    private static final int NO_TWIST = -1000;
    private static final int NO_NEXT = -10000;
    private static final long NO_FORCE = -1000000000000L;
    private static final long NO_BEST = -1000000000001L;

    private static final int TAPE_MOST = 2000;
    private static final int FEED_BYTES = 20;
    private static final int TEXTS_MOST = 4;
    private static final int LAWS_MOST = 8;
    private static final int POINTS_MOST = 8;
    private static final int HINGES_MOST = 4;
    private static final int WINGS_MOST = 4;
    private static final int STRIPS_MOST = 10;
    private static final int BARS_MOST = 8;
    private static final int NAMES_MOST = LAWS_MOST + HINGES_MOST + WINGS_MOST + BARS_MOST;
    private static final int SPEED_MOST = 40;
    private static final int SLANT_MOST = 30;
    private static final int TWIST_MOST = 30;

    private final byte[] tape = new byte[TAPE_MOST];
    private int bytes = 0;
    private int faultPlace = NONE;
    private final Text[] texts = new Text[TEXTS_MOST];
    private int textCount = 0;
    private int hand = NONE;
    private final int[] gusts = new int[STRIPS_MOST];
    private final Reader reader = new Reader();
    private final Solver solver = new Solver();
    private final Trials trials = new Trials(solver);
    private final Best bestTwist = new Best(solver);
    private final Runs runs = new Runs(solver);
    private final boolean[] outs = new boolean[TEXTS_MOST];

    public WingHouse() {
        for (int i = 0; i < TEXTS_MOST; i++) {
            texts[i] = new Text();
        }
    }

    // ---- The tape and its texts ----

    public int feed(int a, int b, int c, int d, int e) {
        if (bytes + FEED_BYTES > TAPE_MOST) {
            return NONE;
        }
        putFour(a);
        putFour(b);
        putFour(c);
        putFour(d);
        putFour(e);
        return bytes;
    }

    private void putFour(int four) {
        for (int shift = 24; shift >= 0; shift -= 8) {
            if (bytes < TAPE_MOST) {
                tape[bytes] = (byte) (four >> shift);
                bytes++;
            }
        }
    }

    public int back(int n) {
        if (n < 0 || n > bytes) {
            return NONE;
        }
        bytes -= n;
        return bytes;
    }

    public int read() {
        if (textCount >= TEXTS_MOST) {
            return -2;
        }
        // The next free text is filled on trial: it counts only if it has no FAULT.
        int fault = reader.parse(texts[textCount], tape, bytes);
        faultPlace = reader.placeOfFault();
        bytes = 0;
        if (fault == 0) {
            hand = textCount;
            textCount++;
        }
        return fault;
    }

    public int place() {
        return faultPlace;
    }

    public boolean use(int text) {
        if (textOf(text) == null) {
            return false;
        }
        hand = text;
        return true;
    }

    private Text textOf(int text) {
        return text >= 0 && text < textCount && text < TEXTS_MOST ? texts[text] : null;
    }

    private static Wing wingOf(Text text, int wing) {
        return text == null ? null : text.wingNumbered(wing);
    }

    private static boolean isSpeed(int v) {
        return v >= 1 && v <= SPEED_MOST;
    }

    private static boolean isSlant(int s) {
        return s >= -SLANT_MOST && s <= SLANT_MOST;
    }

    private static long over(long a, long b) {
        return b == 0 ? 0 : a / b;
    }

    // ---- What a text tells, and what is set by hand ----

    public int law(int k, int x) {
        Text text = textOf(hand);
        if (text == null || k < 0 || k >= text.lawCount || x < -1000 || x > 1000) {
            return NO_VALUE;
        }
        return (int) text.lawValue(k, x);
    }

    public boolean hinge(int k, int a) {
        Text text = textOf(hand);
        if (text == null || k < 0 || k >= text.hingeCount || k >= HINGES_MOST) {
            return false;
        }
        if (a < -text.hingeMost[k] || a > text.hingeMost[k]) {
            return false;
        }
        text.hingeAngles[k] = a;
        return true;
    }

    public boolean gust(int i, int g) {
        if (i < 0 || i >= STRIPS_MOST || g < -30 || g > 30) {
            return false;
        }
        gusts[i] = g;
        return true;
    }

    // ---- Wings solved with gusts: in the open, over ground, behind a leader ----

    public int solve(int wing, int v, int s, boolean on) {
        Text text = textOf(hand);
        Wing flown = wingOf(text, wing);
        if (text == null || flown == null || !isSpeed(v) || !isSlant(s)) {
            return NONE;
        }
        solver.setOut(text, flown, v, s, text.hingeAngles, gusts);
        if (on) {
            solver.flow.startFrom(flown.last);
        }
        return settleAndKeep(flown);
    }

    public int ground(int wing, int v, int s, int h) {
        Text text = textOf(hand);
        Wing flown = wingOf(text, wing);
        if (text == null || flown == null || !isSpeed(v) || !isSlant(s) || h < 1 || h > 20) {
            return NONE;
        }
        solver.setOut(text, flown, v, s, text.hingeAngles, gusts);
        solver.height = h;
        return settleAndKeep(flown);
    }

    public int follow(int wing, int v, int s, int leader, int o) {
        Text text = textOf(hand);
        Wing flown = wingOf(text, wing);
        Wing ahead = wingOf(text, leader);
        if (text == null || flown == null || ahead == null || leader == wing || !ahead.last.solved) {
            return NONE;
        }
        if (!isSpeed(v) || !isSlant(s) || o < -20 || o > 20) {
            return NONE;
        }
        solver.setOut(text, flown, v, s, text.hingeAngles, gusts);
        solver.comeBehind(ahead.last, o);
        return settleAndKeep(flown);
    }

    private int settleAndKeep(Wing flown) {
        int rounds = solver.settle();
        if (rounds != UNSETTLED) {
            flown.last.keep(solver.flow);
        }
        return rounds;
    }

    private Wing solvedWing(int wing) {
        Wing flown = wingOf(textOf(hand), wing);
        return flown != null && flown.last.solved ? flown : null;
    }

    public int strip(int wing, int i, int what) {
        Wing flown = solvedWing(wing);
        if (flown == null || i < 0 || i >= flown.strips || i >= STRIPS_MOST) {
            return NO_VALUE;
        }
        switch (what) {
            case 0:
                return (int) flown.last.g[i];
            case 1:
                return (int) flown.last.down[i];
            case 2:
                return (int) flown.last.bend[i];
            case 3:
                return (int) flown.last.angle[i];
            default:
                return NO_VALUE;
        }
    }

    public int edge(int wing, int k) {
        Wing flown = solvedWing(wing);
        if (flown == null || k < 0 || k > flown.strips) {
            return NO_VALUE;
        }
        return (int) flown.last.edgeAt(k);
    }

    public long force(int wing, int what) {
        Wing flown = solvedWing(wing);
        Text text = textOf(hand);
        if (flown == null || text == null) {
            return NO_FORCE;
        }
        switch (what) {
            case 0:
                return flown.last.liftNow();
            case 1:
                return text.dragNow(flown, flown.last);
            case 2:
                return flown.last.turnNow();
            default:
                return NO_FORCE;
        }
    }

    public int barred(int wing) {
        Wing flown = solvedWing(wing);
        Text text = textOf(hand);
        if (flown == null || text == null) {
            return NONE;
        }
        int found = text.firstBarred(flown, flown.last, flown.twists);
        return found < 0 ? -2 : found % BARS_MOST;
    }

    public int where(int wing) {
        Wing flown = solvedWing(wing);
        Text text = textOf(hand);
        if (flown == null || text == null) {
            return NONE;
        }
        int found = text.firstBarred(flown, flown.last, flown.twists);
        return found < 0 ? -2 : found / BARS_MOST;
    }

    // ---- Curves, trims, folding, shaking, the best twist ----

    public int curve(int wing, int v, int a, int b) {
        Text text = textOf(hand);
        Wing flown = wingOf(text, wing);
        if (text == null || flown == null || !isSpeed(v) || !isSlant(a) || !isSlant(b)) {
            return NO_CURVE;
        }
        return trials.drawCurve(text, flown, v, a, b);
    }

    public long lift(int s) {
        return isSlant(s) ? trials.curveLifts[s + SLANT_MOST] : NO_FORCE;
    }

    public int trims(int wing, int v, int weight) {
        Text text = textOf(hand);
        Wing flown = wingOf(text, wing);
        if (text == null || flown == null || !isSpeed(v)) {
            return NONE;
        }
        return trials.findTrims(text, flown, v, weight);
    }

    public int trim(int wing, int v, int weight, int i) {
        Text text = textOf(hand);
        Wing flown = wingOf(text, wing);
        if (text == null || flown == null || !isSpeed(v)) {
            return NO_CURVE;
        }
        int found = trials.findTrims(text, flown, v, weight);
        return i < 0 || i >= found || i >= trials.trimSlants.length ? NO_CURVE : trials.trimSlants[i];
    }

    public int stays(int wing, int v, int weight, int i) {
        Text text = textOf(hand);
        Wing flown = wingOf(text, wing);
        if (text == null || flown == null || !isSpeed(v)) {
            return NONE;
        }
        int found = trials.findTrims(text, flown, v, weight);
        if (i < 0 || i >= found || i >= trials.trimRising.length) {
            return NONE;
        }
        return trials.trimRising[i] ? 1 : 0;
    }

    public int fold(int wing, int s) {
        Text text = textOf(hand);
        Wing flown = wingOf(text, wing);
        if (text == null || flown == null || !isSlant(s)) {
            return NONE;
        }
        return trials.foldSpeed(text, flown, s);
    }

    public int shakes(int wing, int v, int s) {
        Text text = textOf(hand);
        Wing flown = wingOf(text, wing);
        if (text == null || flown == null || !flown.massTold || !isSpeed(v) || !isSlant(s)) {
            return NONE;
        }
        return trials.shakesAt(text, flown, v, s);
    }

    public int shake(int wing, int s) {
        Text text = textOf(hand);
        Wing flown = wingOf(text, wing);
        if (text == null || flown == null || !flown.massTold || !isSlant(s)) {
            return NONE;
        }
        for (int v = 1; v <= SPEED_MOST; v++) {
            if (trials.shakesAt(text, flown, v, s) == 1) {
                return v;
            }
        }
        return -2;
    }

    public long best(int wing, int v, int s, int strips, int least) {
        Text text = textOf(hand);
        Wing flown = wingOf(text, wing);
        if (text == null || flown == null || !isSpeed(v) || !isSlant(s)) {
            return NO_FORCE;
        }
        if (strips < 0 || strips >= 1 << flown.strips || Integer.bitCount(strips) > Best.TOLD_MOST) {
            return NO_FORCE;
        }
        return bestTwist.search(text, flown, v, s, strips, least);
    }

    public int twist(int i) {
        return bestTwist.twistOf(i);
    }

    // ---- Runs in the tunnel ----

    public int run(int wing, int v, int s, int lift, int wall) {
        if (wing < 0 || wing >= WINGS_MOST || !isSpeed(v) || !isSlant(s)) {
            return NONE;
        }
        if (lift < -1000000 || lift > 1000000 || wall < 0 || wall > 500) {
            return NONE;
        }
        return runs.addRun(wing, v, s, lift, wall);
    }

    public int annul(int run) {
        return runs.isRun(run) ? runs.addVoid(run) : NONE;
    }

    public int right(int run) {
        return runs.isRun(run) ? (int) runs.putRight(run) : NO_RIGHT;
    }

    public int fits(int text, int run) {
        Text judged = textOf(text);
        if (judged == null || !runs.isRun(run)) {
            return NONE;
        }
        return runs.isFit(judged, run) ? 1 : 0;
    }

    public int out(int text, int n) {
        Text judged = textOf(text);
        if (judged == null || n < 0 || n > runs.rows) {
            return NONE;
        }
        return runs.outBy(judged, n);
    }

    public int next(int wing, int n) {
        if (wing < 0 || wing >= WINGS_MOST || n < 0 || n > runs.rows) {
            return NO_NEXT;
        }
        for (int i = 0; i < TEXTS_MOST; i++) {
            outs[i] = i >= textCount || runs.outBy(texts[i], n) != -2;
        }
        return runs.nextPlace(texts, outs, wing);
    }

    public int count(int what) {
        Text text = textOf(hand);
        switch (what) {
            case 0:
                return textCount;
            case 1:
                return hand;
            case 2:
                return runs.rows;
            case 7:
                return bytes;
            default:
                return text == null ? NONE : text.countOf(what);
        }
    }

    /** A law of lift or of drag: points beside one another, flat beyond both ends. */
    private static final class Law {
        private final int[] x = new int[POINTS_MOST];
        private final int[] y = new int[POINTS_MOST];
        private int points = 0;

        private boolean isAboveLast(int px) {
            return points < 1 || points > POINTS_MOST || px > x[points - 1];
        }

        private void addPoint(int px, int py) {
            if (points < POINTS_MOST) {
                x[points] = px;
                y[points] = py;
                points++;
            }
        }

        private long valueAt(long at) {
            if (points < 1 || at < x[0]) {
                return y[0];
            }
            for (int i = 1; i < points && i < POINTS_MOST; i++) {
                int run = x[i] - x[i - 1];
                if (run > 0 && at < x[i]) {
                    return y[i - 1] + (y[i] - y[i - 1]) * (at - x[i - 1]) / run;
                }
            }
            return y[Math.min(points, POINTS_MOST) - 1];
        }
    }

    /** What the rounds make of a wing's strips. */
    private static final class Flow {
        private final long[] g = new long[STRIPS_MOST];
        private final long[] down = new long[STRIPS_MOST];
        private final long[] bend = new long[STRIPS_MOST];
        private final long[] angle = new long[STRIPS_MOST];
        private int strips = 0;
        private int v = 0;
        private boolean solved = false;

        private void rest(int stripCount, int speed) {
            Arrays.fill(g, 0);
            strips = Math.min(stripCount, STRIPS_MOST);
            v = speed;
            solved = false;
        }

        private void startFrom(Flow other) {
            System.arraycopy(other.g, 0, g, 0, STRIPS_MOST);
        }

        private void keep(Flow other) {
            System.arraycopy(other.g, 0, g, 0, STRIPS_MOST);
            System.arraycopy(other.down, 0, down, 0, STRIPS_MOST);
            System.arraycopy(other.bend, 0, bend, 0, STRIPS_MOST);
            System.arraycopy(other.angle, 0, angle, 0, STRIPS_MOST);
            strips = other.strips;
            v = other.v;
            solved = true;
        }

        private long edgeAt(int k) {
            long here = k >= 0 && k < strips ? g[k] : 0;
            long before = k >= 1 && k <= strips ? g[k - 1] : 0;
            return here - before;
        }

        private long liftNow() {
            long sum = 0;
            for (int i = 0; i < strips; i++) {
                sum += g[i];
            }
            return sum * v * v / 100;
        }

        private long turnNow() {
            long sum = 0;
            for (int i = 0; i < strips; i++) {
                sum += g[i] * (2 * i + 1 - strips);
            }
            return sum * v * v / 100;
        }
    }

    /** A row of strips, as told, with what it was last solved to. */
    private static final class Wing {
        private static final int DEEP_UNTOLD = 200;

        private int strips = 0;
        private final int[] widths = new int[STRIPS_MOST];
        private final int[] laws = new int[STRIPS_MOST];
        private final int[] drags = new int[STRIPS_MOST];
        private final int[] twists = new int[STRIPS_MOST];
        private final int[] hinges = new int[STRIPS_MOST];
        private int deep = DEEP_UNTOLD;
        private int stiff = 0;
        private int sweep = 0;
        private final int[] mass = new int[4];
        private boolean massTold = false;
        private final Flow last = new Flow();

        private void untell() {
            strips = 0;
            deep = DEEP_UNTOLD;
            stiff = 0;
            sweep = 0;
            massTold = false;
            last.rest(0, 0);
        }

        private void addStrip(int width, int law, int drag, int twist, int hinge) {
            if (strips < STRIPS_MOST) {
                widths[strips] = width;
                laws[strips] = law;
                drags[strips] = drag;
                twists[strips] = twist;
                hinges[strips] = hinge;
                strips++;
            }
        }
    }

    /** One text, read without a fault: its laws, hinges, wings, bars and their names. */
    private static final class Text {
        private final Law[] laws = new Law[LAWS_MOST];
        private int lawCount = 0;
        private final int[] hingeMost = new int[HINGES_MOST];
        private final int[] hingeAngles = new int[HINGES_MOST];
        private int hingeCount = 0;
        private final Wing[] wings = new Wing[WINGS_MOST];
        private int wingCount = 0;
        private final Bars bars = new Bars();
        private final long[] names = new long[NAMES_MOST];
        private final int[] nameSorts = new int[NAMES_MOST];
        private final int[] nameNumbers = new int[NAMES_MOST];
        private int nameCount = 0;

        private Text() {
            for (int i = 0; i < LAWS_MOST; i++) {
                laws[i] = new Law();
            }
            for (int i = 0; i < WINGS_MOST; i++) {
                wings[i] = new Wing();
            }
        }

        private void clear() {
            for (int i = 0; i < LAWS_MOST; i++) {
                laws[i].points = 0;
            }
            for (int i = 0; i < WINGS_MOST; i++) {
                wings[i].untell();
            }
            Arrays.fill(hingeAngles, 0);
            bars.empty();
            lawCount = 0;
            hingeCount = 0;
            wingCount = 0;
            nameCount = 0;
        }

        private int nameIndex(long name) {
            for (int i = 0; i < nameCount; i++) {
                if (names[i] == name) {
                    return i;
                }
            }
            return NONE;
        }

        private int numberNamed(long name, int sort) {
            int i = nameIndex(name);
            return i >= 0 && i < NAMES_MOST && nameSorts[i] == sort ? nameNumbers[i] : NONE;
        }

        private void addName(long name, int sort, int number) {
            if (nameCount < NAMES_MOST) {
                names[nameCount] = name;
                nameSorts[nameCount] = sort;
                nameNumbers[nameCount] = number;
                nameCount++;
            }
        }

        private Wing wingNumbered(int wing) {
            return wing >= 0 && wing < wingCount && wing < WINGS_MOST ? wings[wing] : null;
        }

        private long lawValue(int law, long x) {
            return law >= 0 && law < LAWS_MOST ? laws[law].valueAt(x) : 0;
        }

        private long dragNow(Wing wing, Flow flow) {
            long shape = 0;
            long drawn = 0;
            for (int i = 0; i < flow.strips && i < STRIPS_MOST; i++) {
                shape += wing.widths[i] * lawValue(wing.drags[i], flow.angle[i]);
                drawn += flow.g[i] * flow.down[i];
            }
            return (shape + drawn / 57) * flow.v * flow.v / 100;
        }

        /** The strip times BARS_MOST and the bar that holds there, or NONE. */
        private int firstBarred(Wing wing, Flow flow, int[] twists) {
            for (int i = 0; i < flow.strips && i < STRIPS_MOST && i < twists.length; i++) {
                int[] vars = bars.vars;
                vars[0] = (int) flow.angle[i];
                vars[1] = (int) flow.g[i];
                vars[2] = wing.widths[i];
                vars[3] = twists[i];
                vars[4] = i;
                vars[5] = flow.v;
                vars[6] = (int) flow.bend[i];
                vars[7] = (int) flow.down[i];
                for (int bar = 0; bar < bars.barCount; bar++) {
                    if (bars.holds(bar)) {
                        return i * BARS_MOST + bar;
                    }
                }
            }
            return NONE;
        }

        private int countOf(int what) {
            switch (what) {
                case 3:
                    return lawCount;
                case 4:
                    return hingeCount;
                case 5:
                    return wingCount;
                case 6:
                    return bars.barCount;
                default:
                    Wing wing = what < 10 ? null : wingNumbered(what - 10);
                    return wing == null ? NONE : wing.strips;
            }
        }
    }

    /** The bars of a text, each a row of steps in postfix order. */
    private static final class Bars {
        private static final int VARS = 8;
        // Six ( within one another leave 14 signs waiting at most, so 16 values.
        private static final int STACK_MOST = 32;

        private final int[] steps = new int[Tokens.MOST];
        private final int[] values = new int[Tokens.MOST];
        private int stepCount = 0;
        private final int[] ends = new int[BARS_MOST];
        private int barCount = 0;
        private final int[] vars = new int[VARS];
        private final int[] stack = new int[STACK_MOST];
        private int height = 0;
        private boolean broken = false;

        private void empty() {
            stepCount = 0;
            barCount = 0;
        }

        private void addStep(int step, int value) {
            // No step comes without a TOKEN of its own, so that there is always room.
            if (stepCount < steps.length) {
                steps[stepCount] = step;
                values[stepCount] = value;
                stepCount++;
            }
        }

        private void closeBar() {
            if (barCount < BARS_MOST) {
                ends[barCount] = stepCount;
                barCount++;
            }
        }

        private boolean holds(int bar) {
            if (bar < 0 || bar >= BARS_MOST) {
                return false;
            }
            boolean any = false;
            boolean all = true;
            height = 0;
            broken = false;
            for (int i = bar == 0 ? 0 : ends[bar - 1]; i < ends[bar] && i < steps.length; i++) {
                int step = steps[i];
                if (step == Tokens.OR) {
                    any = any || all;
                    all = true;
                } else if (Tokens.isComparison(step)) {
                    // The value of a comparison is 1 behind an odd number of nots.
                    boolean held = compares(step) != (values[i] == 1);
                    all = all && held;
                    broken = false;
                } else if (Tokens.isVariable(step)) {
                    push(vars[values[i] & 7]);
                } else if (step == Tokens.INT) {
                    push(values[i]);
                } else {
                    reckon(step);
                }
            }
            return any || all;
        }

        private void push(int value) {
            if (height < stack.length) {
                stack[height] = value;
                height++;
            }
        }

        private int pop() {
            if (height < 1 || height > stack.length) {
                return 0;
            }
            height--;
            return stack[height];
        }

        private boolean compares(int step) {
            int b = pop();
            int a = pop();
            if (broken) {
                return false;
            }
            switch (step) {
                case Tokens.EQUAL:
                    return a == b;
                case Tokens.UNEQUAL:
                    return a != b;
                case Tokens.LESS:
                    return a < b;
                default:
                    return a <= b;
            }
        }

        private void reckon(int step) {
            int b = pop();
            int a = pop();
            switch (step) {
                case Tokens.PLUS:
                    push(a + b);
                    break;
                case Tokens.MINUS:
                    push(a - b);
                    break;
                case Tokens.TIMES:
                    push(a * b);
                    break;
                default:
                    broken = broken || b == 0;
                    push(b == 0 ? 0 : a / b);
                    break;
            }
        }
    }

    /** The tokens of a tape, up to the first that is none, its end, or the 501st. */
    private static final class Tokens {
        private static final int MOST = 500;
        private static final int NAME_LETTERS = 8;
        private static final int INT_DIGITS = 4;

        private static final int END = 0;
        private static final int BAD = 1;
        private static final int NAME = 2;
        private static final int INT = 3;
        private static final int EQUAL = 4;
        private static final int UNEQUAL = 5;
        private static final int LESS = 6;
        private static final int LESS_EQUAL = 7;
        private static final int OPEN = '(';
        private static final int CLOSE = ')';
        private static final int TIMES = '*';
        private static final int PLUS = '+';
        private static final int COMMA = ',';
        private static final int MINUS = '-';
        private static final int BY = '/';
        private static final int COLON = ':';
        private static final int SEMICOLON = ';';

        // Each word fills five places; its kind is WORD and its number in the row.
        private static final String WORDS =
                "law  drag hingewing bar  deep stiffsweepmass if   on   or   and  not  slantlift widthtwistat   speedbend down ";
        private static final int WORD_WIDTH = 5;
        private static final int WORD = 200;
        private static final int LAW = 200;
        private static final int DRAG = 201;
        private static final int HINGE = 202;
        private static final int WING = 203;
        private static final int BAR = 204;
        private static final int DEEP = 205;
        private static final int STIFF = 206;
        private static final int SWEEP = 207;
        private static final int MASS = 208;
        private static final int IF = 209;
        private static final int ON = 210;
        private static final int OR = 211;
        private static final int AND = 212;
        private static final int NOT = 213;
        private static final int SLANT = 214;
        private static final int DOWN = 221;

        private final long[] words = new long[WORDS.length() / WORD_WIDTH];
        private final int[] kinds = new int[MOST + 1];
        private final int[] froms = new int[MOST + 1];
        private final long[] values = new long[MOST + 1];
        private int tokenCount = 0;
        private byte[] tape = null;
        private int length = 0;
        private int at = 0;

        private Tokens() {
            for (int i = 0; i < WORDS.length(); i++) {
                char letter = WORDS.charAt(i);
                if (letter != ' ' && i / WORD_WIDTH < words.length) {
                    words[i / WORD_WIDTH] = withLetter(words[i / WORD_WIDTH], letter);
                }
            }
        }

        private static long withLetter(long word, int letter) {
            return word * 27 + (letter - 'a' + 1);
        }

        private static boolean isBlank(int c) {
            return c == 9 || c == 10 || c == 13 || c == 32;
        }

        private static boolean isLetter(int c) {
            return c >= 'a' && c <= 'z';
        }

        private static boolean isDigit(int c) {
            return c >= '0' && c <= '9';
        }

        private static boolean isComparison(int kind) {
            return kind >= EQUAL && kind <= LESS_EQUAL;
        }

        private static boolean isVariable(int kind) {
            return kind >= SLANT && kind <= DOWN;
        }

        private void scanAll(byte[] from, int bytes) {
            tape = from;
            length = bytes;
            at = 0;
            tokenCount = 0;
            for (int i = 0; i <= MOST; i++) {
                scanOne(i);
                tokenCount = i + 1;
                if (kinds[i] == END || kinds[i] == BAD) {
                    break;
                }
            }
        }

        private int kindOf(int token) {
            return token >= 0 && token < tokenCount && token <= MOST ? kinds[token] : END;
        }

        private int fromOf(int token) {
            return token >= 0 && token < tokenCount && token <= MOST ? froms[token] : length;
        }

        private long valueOf(int token) {
            return token >= 0 && token < tokenCount && token <= MOST ? values[token] : 0;
        }

        private int byteAt(int i) {
            return tape != null && i >= 0 && i < length && i < tape.length ? tape[i] & 255 : NONE;
        }

        private void scanOne(int token) {
            while (at < length && isBlank(byteAt(at))) {
                at++;
            }
            int c = byteAt(at);
            if (token < 0 || token > MOST) {
                return;
            }
            froms[token] = at;
            values[token] = 0;
            if (c == NONE) {
                kinds[token] = END;
            } else if (isLetter(c)) {
                kinds[token] = wordFrom(token);
            } else if (isDigit(c)) {
                kinds[token] = numberFrom(token);
            } else {
                kinds[token] = signFrom(c);
            }
        }

        private int wordFrom(int token) {
            long word = 0;
            int letters = 0;
            while (at < length && isLetter(byteAt(at))) {
                word = letters < NAME_LETTERS ? withLetter(word, byteAt(at)) : word;
                letters++;
                at++;
            }
            if (letters > NAME_LETTERS || token < 0 || token > MOST) {
                return BAD;
            }
            values[token] = word;
            for (int i = 0; i < words.length; i++) {
                if (words[i] == word) {
                    return WORD + i;
                }
            }
            return NAME;
        }

        private int numberFrom(int token) {
            int number = 0;
            int digits = 0;
            while (at < length && isDigit(byteAt(at))) {
                number = digits < INT_DIGITS ? number * 10 + (byteAt(at) - '0') : number;
                digits++;
                at++;
            }
            if (digits > INT_DIGITS || token < 0 || token > MOST) {
                return BAD;
            }
            values[token] = number;
            return INT;
        }

        private int signFrom(int c) {
            boolean equals = byteAt(at + 1) == '=';
            at += equals && (c == '=' || c == '!' || c == '<') ? 2 : 1;
            switch (c) {
                case '=':
                    return equals ? EQUAL : BAD;
                case '!':
                    return equals ? UNEQUAL : BAD;
                case '<':
                    return equals ? LESS_EQUAL : LESS;
                case OPEN:
                case CLOSE:
                case TIMES:
                case PLUS:
                case COMMA:
                case MINUS:
                case BY:
                case COLON:
                case SEMICOLON:
                    return c;
                default:
                    return BAD;
            }
        }
    }

    /** Reads the tokens of a tape into a text. */
    private static final class Reader {
        private static final int SYNTAX = 1;
        private static final int ROOM = 2;
        private static final int TWICE = 3;
        private static final int NAME = 4;
        private static final int WRONG = 5;
        private static final int NEST_MOST = 6;
        private static final int PENDING_MOST = 32;

        private final Tokens tokens = new Tokens();
        private int at = 0;
        private int kind = 0;
        private int taken = 0;
        private int fault = 0;
        private int faultToken = 0;
        private int late = 0;
        private int lateToken = 0;
        private final int[] pending = new int[PENDING_MOST];
        private int pendingCount = 0;

        private int parse(Text into, byte[] tape, int length) {
            tokens.scanAll(tape, length);
            into.clear();
            at = 0;
            kind = tokens.kindOf(0);
            taken = 0;
            fault = 0;
            late = 0;
            for (int tells = 0; tells <= Tokens.MOST && fault == 0 && kind != Tokens.END; tells++) {
                switch (kind) {
                    case Tokens.LAW:
                    case Tokens.DRAG:
                        tellLaw(into, kind);
                        break;
                    case Tokens.HINGE:
                        tellHinge(into);
                        break;
                    case Tokens.WING:
                        tellWing(into);
                        break;
                    case Tokens.BAR:
                        tellBar(into);
                        break;
                    default:
                        stop(SYNTAX);
                        break;
                }
            }
            return fault != 0 ? fault : late;
        }

        private int placeOfFault() {
            if (fault == 0 && late == 0) {
                return NONE;
            }
            return tokens.fromOf(fault != 0 ? faultToken : lateToken);
        }

        /** SYNTAX and ROOM end the reading at the token that comes. */
        private void stop(int which) {
            if (fault == 0) {
                fault = which;
                faultToken = at;
            }
        }

        /** The others count only in a text that is read to its end: the first of them is kept. */
        private void blame(int which) {
            if (late == 0) {
                late = which;
                lateToken = taken;
            }
        }

        private void take(int due) {
            if (fault != 0) {
                return;
            }
            if (kind != due) {
                stop(SYNTAX);
            } else if (at >= Tokens.MOST) {
                stop(ROOM);
            } else {
                taken = at;
                at++;
                kind = tokens.kindOf(at);
            }
        }

        private int number(int low, int high) {
            take(Tokens.INT);
            int number = (int) tokens.valueOf(taken);
            if (number < low || number > high) {
                blame(WRONG);
            }
            return number;
        }

        private int signed(int limit) {
            boolean minus = kind == Tokens.MINUS;
            if (minus) {
                take(Tokens.MINUS);
            }
            int number = number(0, limit);
            return minus ? -number : number;
        }

        private void named(Text into, int sort, int number) {
            take(Tokens.NAME);
            long name = tokens.valueOf(taken);
            if (into.nameIndex(name) >= 0) {
                blame(TWICE);
            } else {
                into.addName(name, sort, number);
            }
        }

        private int known(Text into, int sort) {
            take(Tokens.NAME);
            int number = into.numberNamed(tokens.valueOf(taken), sort);
            if (number < 0) {
                blame(NAME);
            }
            return number;
        }

        private void tellLaw(Text into, int sort) {
            int number = into.lawCount;
            if (number < 0 || number >= LAWS_MOST) {
                stop(ROOM);
                return;
            }
            Law law = into.laws[number];
            take(sort);
            named(into, sort, number);
            take(Tokens.COLON);
            tellPoint(law);
            take(Tokens.COMMA);
            tellPoint(law);
            for (int i = 2; i <= POINTS_MOST && fault == 0 && kind == Tokens.COMMA; i++) {
                take(Tokens.COMMA);
                if (i < POINTS_MOST) {
                    tellPoint(law);
                } else {
                    stop(ROOM);
                }
            }
            take(Tokens.SEMICOLON);
            into.lawCount++;
        }

        private void tellPoint(Law law) {
            int x = signed(90);
            if (!law.isAboveLast(x)) {
                blame(WRONG);
            }
            int y = signed(999);
            law.addPoint(x, y);
        }

        private void tellHinge(Text into) {
            int number = into.hingeCount;
            if (number < 0 || number >= HINGES_MOST) {
                stop(ROOM);
                return;
            }
            take(Tokens.HINGE);
            named(into, Tokens.HINGE, number);
            into.hingeMost[number] = number(1, 30);
            take(Tokens.SEMICOLON);
            into.hingeCount++;
        }

        private void tellWing(Text into) {
            int number = into.wingCount;
            if (number < 0 || number >= WINGS_MOST) {
                stop(ROOM);
                return;
            }
            Wing wing = into.wings[number];
            take(Tokens.WING);
            named(into, Tokens.WING, number);
            take(Tokens.COLON);
            tellStrip(into, wing);
            for (int i = 1; i <= STRIPS_MOST && fault == 0 && kind == Tokens.COMMA; i++) {
                take(Tokens.COMMA);
                if (i < STRIPS_MOST) {
                    tellStrip(into, wing);
                } else {
                    stop(ROOM);
                }
            }
            for (int i = 0; i <= Tokens.MOST && fault == 0 && isMake(kind); i++) {
                tellMake(wing, kind);
            }
            take(Tokens.SEMICOLON);
            into.wingCount++;
        }

        private void tellStrip(Text into, Wing wing) {
            int width = number(1, 9);
            int law = known(into, Tokens.LAW);
            int drag = known(into, Tokens.DRAG);
            int twist = signed(TWIST_MOST);
            int hinge = NONE;
            if (kind == Tokens.ON) {
                take(Tokens.ON);
                hinge = known(into, Tokens.HINGE);
            }
            wing.addStrip(width, law, drag, twist, hinge);
        }

        private static boolean isMake(int kind) {
            return kind >= Tokens.DEEP && kind <= Tokens.MASS;
        }

        private void tellMake(Wing wing, int sort) {
            take(sort);
            switch (sort) {
                case Tokens.DEEP:
                    wing.deep = number(50, 2000);
                    break;
                case Tokens.STIFF:
                    wing.stiff = number(0, 2000);
                    break;
                case Tokens.SWEEP:
                    wing.sweep = signed(9);
                    break;
                default:
                    for (int i = 0; i < wing.mass.length; i++) {
                        wing.mass[i] = number(1, 2000);
                    }
                    wing.massTold = true;
                    break;
            }
        }

        private void tellBar(Text into) {
            int number = into.bars.barCount;
            if (number < 0 || number >= BARS_MOST) {
                stop(ROOM);
                return;
            }
            take(Tokens.BAR);
            named(into, Tokens.BAR, number);
            take(Tokens.IF);
            condition(into.bars);
            take(Tokens.SEMICOLON);
            into.bars.closeBar();
        }

        private void condition(Bars bars) {
            for (int literals = 0; literals <= Tokens.MOST && fault == 0; literals++) {
                int turned = 0;
                for (int i = 0; i <= Tokens.MOST && fault == 0 && kind == Tokens.NOT; i++) {
                    take(Tokens.NOT);
                    turned = 1 - turned;
                }
                expression(bars);
                int sign = Tokens.isComparison(kind) ? kind : Tokens.EQUAL;
                take(sign);
                expression(bars);
                bars.addStep(sign, turned);
                if (kind == Tokens.OR) {
                    take(Tokens.OR);
                    bars.addStep(Tokens.OR, 0);
                } else if (kind == Tokens.AND) {
                    take(Tokens.AND);
                } else {
                    break;
                }
            }
        }

        private void expression(Bars bars) {
            int open = 0;
            boolean unitDue = true;
            pendingCount = 0;
            for (int i = 0; i <= Tokens.MOST && fault == 0; i++) {
                if (unitDue && kind == Tokens.OPEN) {
                    open++;
                    if (open > NEST_MOST) {
                        stop(ROOM);
                    }
                    waitFor(Tokens.OPEN);
                    take(Tokens.OPEN);
                } else if (unitDue) {
                    unit(bars);
                    unitDue = false;
                } else if (rankOf(kind) > 0) {
                    release(bars, rankOf(kind));
                    waitFor(kind);
                    take(kind);
                    unitDue = true;
                } else if (open > 0) {
                    open--;
                    release(bars, 1);
                    pendingCount = Math.max(0, pendingCount - 1);
                    take(Tokens.CLOSE);
                } else {
                    break;
                }
            }
            release(bars, 1);
        }

        private void unit(Bars bars) {
            if (Tokens.isVariable(kind)) {
                bars.addStep(kind, kind - Tokens.SLANT);
                take(kind);
            } else {
                take(Tokens.INT);
                bars.addStep(Tokens.INT, (int) tokens.valueOf(taken));
            }
        }

        private static int rankOf(int kind) {
            if (kind == Tokens.TIMES || kind == Tokens.BY) {
                return 2;
            }
            return kind == Tokens.PLUS || kind == Tokens.MINUS ? 1 : 0;
        }

        private void waitFor(int sign) {
            if (pendingCount < PENDING_MOST) {
                pending[pendingCount] = sign;
                pendingCount++;
            }
        }

        private void release(Bars bars, int rank) {
            for (int i = pendingCount - 1; i >= 0 && i < PENDING_MOST && rankOf(pending[i]) >= rank; i--) {
                bars.addStep(pending[i], 0);
                pendingCount = i;
            }
        }
    }

    /** The rounds by which a wing's strips and the air that its edges turn down agree. */
    private static final class Solver {
        private static final int ROUNDS_MOST = 120;
        private static final long M = 14549535L;
        // M over 1, 3, .. 19: each divides it, so that S * M / d is S times its share.
        private static final int[] SHARES = {
            14549535, 4849845, 2909907, 2078505, 1616615, 1322685, 1119195, 969969, 855855, 765765
        };

        private final int[] still = new int[STRIPS_MOST];
        private final Flow flow = new Flow();
        private final int[] twists = new int[STRIPS_MOST];
        private final long[] lean = new long[STRIPS_MOST];
        private final long[] wash = new long[STRIPS_MOST];
        private final long[] edges = new long[STRIPS_MOST + 1];
        private Text text = null;
        private Wing wing = null;
        private int height = 0;

        private void setOut(Text ofText, Wing ofWing, int v, int s, int[] hingeAngles, int[] gusts) {
            text = ofText;
            wing = ofWing;
            height = 0;
            flow.rest(ofWing.strips, v);
            Arrays.fill(wash, 0);
            for (int i = 0; i < flow.strips && i < gusts.length; i++) {
                int hinge = ofWing.hinges[i];
                int turned = hinge >= 0 && hinge < hingeAngles.length ? hingeAngles[hinge] : 0;
                twists[i] = ofWing.twists[i];
                lean[i] = s + twists[i] + turned + gusts[i];
            }
        }

        private void turnStrip(int i, int twist) {
            if (i >= 0 && i < STRIPS_MOST) {
                lean[i] += twist - twists[i];
                twists[i] = twist;
            }
        }

        private void comeBehind(Flow leader, int offset) {
            if (wing == null) {
                return;
            }
            for (int i = 0; i < flow.strips; i++) {
                long sum = 0;
                for (int k = 0; k <= leader.strips; k++) {
                    sum += over(leader.edgeAt(k) * M, 2 * (i - k - offset) + 1);
                }
                wash[i] = over(sum, M * wing.deep);
            }
        }

        /** How many rounds it took, or UNSETTLED. */
        private int settle() {
            for (int rounds = 1; rounds <= ROUNDS_MOST; rounds++) {
                if (!goRound()) {
                    return rounds;
                }
            }
            return UNSETTLED;
        }

        private boolean goRound() {
            if (text == null || wing == null) {
                return false;
            }
            tellDown(M * wing.deep);
            if (height > 0) {
                liftByGround(M * wing.deep);
            }
            tellBend(1000L * wing.stiff);
            boolean changed = false;
            for (int i = 0; i < flow.strips; i++) {
                flow.angle[i] = lean[i] - flow.down[i] - wing.sweep * flow.bend[i] / 10;
                long aim = wing.widths[i] * text.lawValue(wing.laws[i], flow.angle[i]);
                long step = (aim - flow.g[i]) / 2;
                flow.g[i] += step;
                changed = changed || step != 0;
            }
            return changed;
        }

        private void tellDown(long whole) {
            long before = 0;
            for (int k = 0; k <= flow.strips; k++) {
                long here = k < flow.strips ? flow.g[k] : 0;
                edges[k] = here - before;
                before = here;
            }
            for (int i = 0; i < flow.strips; i++) {
                long sum = 0;
                for (int k = 0; k <= flow.strips; k++) {
                    sum += k <= i ? edges[k] * SHARES[i - k] : -edges[k] * SHARES[k - i - 1];
                }
                flow.down[i] = over(sum, whole) + wash[i];
            }
        }

        private void liftByGround(long whole) {
            for (int i = 0; i < flow.strips; i++) {
                long sum = 0;
                for (int k = 0; k <= flow.strips; k++) {
                    long d = 2 * (i - k) + 1;
                    sum += over(edges[k] * M * d, d * d + 16L * height * height);
                }
                flow.down[i] -= over(sum, whole);
            }
        }

        private void tellBend(long stiffness) {
            long outward = 0;
            for (int i = 0; i < flow.strips; i++) {
                outward += flow.g[i];
            }
            long bent = 0;
            for (int i = 0; i < flow.strips; i++) {
                bent += outward;
                outward -= flow.g[i];
                flow.bend[i] = over(bent * flow.v * flow.v, stiffness);
            }
        }

        /** LIFT from rest in still air, or NO_FORCE if it is UNSETTLED. */
        private long restLift(Text ofText, Wing ofWing, int v, int s, int[] hingeAngles) {
            setOut(ofText, ofWing, v, s, hingeAngles, still);
            return settle() == UNSETTLED ? NO_FORCE : flow.liftNow();
        }
    }

    /** Curves, trims, and the speeds at which a wing folds or shakes, all in still air. */
    private static final class Trials {
        private static final int SLANTS = 2 * SLANT_MOST + 1;
        private static final int NO_STALL = -100;
        private static final int BEND_MOST = 90;
        private static final int SWINGS = 120;
        private static final int LAST_SWINGS = 40;
        private static final long SWING_MOST = 1000000;
        private static final long SWING_START = 1000;

        private final Solver solver;
        private final Flow kept = new Flow();
        // NO_FORCE stands where there is none: no LIFT comes near it.
        private final long[] curveLifts = new long[SLANTS];
        private final long[] restLifts = new long[SLANTS];
        private final int[] trimSlants = new int[SLANTS];
        private final boolean[] trimRising = new boolean[SLANTS];

        private Trials(Solver solver) {
            this.solver = solver;
            Arrays.fill(curveLifts, NO_FORCE);
        }

        private int drawCurve(Text text, Wing wing, int v, int a, int b) {
            Arrays.fill(curveLifts, NO_FORCE);
            kept.rest(wing.strips, v);
            int step = a <= b ? 1 : -1;
            int stall = NO_STALL;
            long before = NO_FORCE;
            for (int i = 0; i <= Math.abs(b - a) && i < SLANTS; i++) {
                int s = a + i * step;
                solver.setOut(text, wing, v, s, text.hingeAngles, solver.still);
                solver.flow.startFrom(kept);
                if (solver.settle() == UNSETTLED || !isSlant(s)) {
                    continue;
                }
                kept.keep(solver.flow);
                long now = kept.liftNow();
                curveLifts[s + SLANT_MOST] = now;
                if (stall == NO_STALL && before != NO_FORCE && (now - before) * step < 0) {
                    stall = s;
                }
                before = now;
            }
            return stall;
        }

        private int findTrims(Text text, Wing wing, int v, long weight) {
            for (int i = 0; i < SLANTS; i++) {
                restLifts[i] = solver.restLift(text, wing, v, i - SLANT_MOST, text.hingeAngles);
            }
            int found = 0;
            for (int i = 1; i < SLANTS; i++) {
                boolean there = restLifts[i] != NO_FORCE && restLifts[i - 1] != NO_FORCE;
                boolean carries = restLifts[i] >= weight;
                boolean carried = restLifts[i - 1] >= weight;
                if (there && carries != carried && found < SLANTS) {
                    trimSlants[found] = i - SLANT_MOST;
                    trimRising[found] = carries;
                    found++;
                }
            }
            return found;
        }

        private int foldSpeed(Text text, Wing wing, int s) {
            for (int v = 1; v <= SPEED_MOST; v++) {
                solver.setOut(text, wing, v, s, text.hingeAngles, solver.still);
                if (solver.settle() == UNSETTLED || isFolded(solver.flow)) {
                    return v;
                }
            }
            return -2;
        }

        private static boolean isFolded(Flow flow) {
            for (int i = 0; i < flow.strips; i++) {
                if (flow.bend[i] < -BEND_MOST || flow.bend[i] > BEND_MOST) {
                    return true;
                }
            }
            return false;
        }

        private int shakesAt(Text text, Wing wing, int v, int s) {
            solver.setOut(text, wing, v, s, text.hingeAngles, solver.still);
            if (solver.settle() == UNSETTLED) {
                return UNSETTLED;
            }
            long slope = 0;
            for (int i = 0; i < solver.flow.strips; i++) {
                long angle = solver.flow.angle[i];
                long rise = text.lawValue(wing.laws[i], angle + 1) - text.lawValue(wing.laws[i], angle - 1);
                slope += wing.widths[i] * rise;
            }
            return isGrowing(wing.mass, slope * v * v) ? 1 : 0;
        }

        private static boolean isGrowing(int[] mass, long push) {
            if (mass.length < 4) {
                return false;
            }
            // p and u, with a, never come back to w and q: what is asked of q needs none of them.
            long w = 0;
            long q = SWING_START;
            long greatest = 0;
            for (int i = 0; i < SWINGS; i++) {
                long f = push * q / 1000000;
                w = held(w - f * mass[3] / 1000 - mass[1] * q / 1000 - mass[2] * w / 1000);
                q = held(q + w);
                if (i >= SWINGS - LAST_SWINGS) {
                    greatest = Math.max(greatest, Math.abs(q));
                }
            }
            return greatest > SWING_START;
        }

        private static long held(long swing) {
            return Math.max(-SWING_MOST, Math.min(SWING_MOST, swing));
        }
    }

    /** The search for the twist of told strips that has the least drag. */
    private static final class Best {
        private static final int TOLD_MOST = 4;
        private static final int REACH = 2;
        private static final int TRIES_MOST = 625;

        private final Solver solver;
        private final int[] told = new int[TOLD_MOST];
        private final int[] low = new int[TOLD_MOST];
        private final int[] high = new int[TOLD_MOST];
        private final int[] trial = new int[TOLD_MOST];
        private int toldCount = 0;
        private boolean found = false;
        private long leastDrag = 0;
        private final int[] twists = new int[STRIPS_MOST];

        private Best(Solver solver) {
            this.solver = solver;
            Arrays.fill(twists, NO_TWIST);
        }

        private long search(Text text, Wing wing, int v, int s, int strips, int least) {
            tellStrips(wing, strips);
            Arrays.fill(twists, NO_TWIST);
            found = false;
            solver.setOut(text, wing, v, s, text.hingeAngles, solver.still);
            for (int tries = 0; tries < TRIES_MOST; tries++) {
                judge(text, wing, v, least);
                if (!stepOn()) {
                    break;
                }
            }
            return found ? leastDrag : NO_BEST;
        }

        private void tellStrips(Wing wing, int strips) {
            toldCount = 0;
            for (int i = 0; i < wing.strips && i < STRIPS_MOST; i++) {
                if ((strips >> i & 1) == 1 && toldCount < TOLD_MOST) {
                    told[toldCount] = i;
                    low[toldCount] = Math.max(-TWIST_MOST, wing.twists[i] - REACH);
                    high[toldCount] = Math.min(TWIST_MOST, wing.twists[i] + REACH);
                    trial[toldCount] = low[toldCount];
                    toldCount++;
                }
            }
        }

        private void judge(Text text, Wing wing, int v, int least) {
            solver.flow.rest(wing.strips, v);
            for (int j = 0; j < toldCount && j < TOLD_MOST; j++) {
                solver.turnStrip(told[j], trial[j]);
            }
            if (solver.settle() == UNSETTLED || solver.flow.liftNow() < least) {
                return;
            }
            long drag = text.dragNow(wing, solver.flow);
            if (found && drag >= leastDrag || text.firstBarred(wing, solver.flow, solver.twists) >= 0) {
                return;
            }
            found = true;
            leastDrag = drag;
            for (int j = 0; j < toldCount && j < TOLD_MOST; j++) {
                twists[told[j]] = trial[j];
            }
        }

        /** The last told strip turns fastest, so that the least twists of the first come first. */
        private boolean stepOn() {
            for (int j = toldCount - 1; j >= 0 && j < TOLD_MOST; j--) {
                if (trial[j] < high[j]) {
                    trial[j]++;
                    return true;
                }
                trial[j] = low[j];
            }
            return false;
        }

        private int twistOf(int i) {
            return i >= 0 && i < STRIPS_MOST ? twists[i] : NO_TWIST;
        }
    }

    /** Runs in the tunnel and their voids, in one row. */
    private static final class Runs {
        private static final int MOST = 60;
        private static final int FARTHEST_SPEED = 40;
        private static final int FARTHEST_SLANT = 20;

        private final Solver solver;
        // The run that a void is of, NONE for a run.
        private final int[] voidOf = new int[MOST];
        private final int[] wings = new int[MOST];
        private final int[] speeds = new int[MOST];
        private final int[] slants = new int[MOST];
        private final int[] lifts = new int[MOST];
        private final int[] walls = new int[MOST];
        private final int[] unturned = new int[HINGES_MOST];
        private int rows = 0;

        private Runs(Solver solver) {
            this.solver = solver;
        }

        private int addRun(int wing, int v, int s, int lift, int wall) {
            if (rows >= MOST) {
                return NONE;
            }
            voidOf[rows] = NONE;
            wings[rows] = wing;
            speeds[rows] = v;
            slants[rows] = s;
            lifts[rows] = lift;
            walls[rows] = wall;
            rows++;
            return rows - 1;
        }

        private int addVoid(int run) {
            if (rows >= MOST) {
                return NONE;
            }
            voidOf[rows] = run;
            rows++;
            return rows - 1;
        }

        private boolean isRun(int row) {
            return row >= 0 && row < rows && row < MOST && voidOf[row] == NONE;
        }

        private long putRight(int run) {
            return run < 0 || run >= MOST ? 0 : over(lifts[run] * 1000L, 1000L + walls[run]);
        }

        private boolean isFit(Text text, int run) {
            Wing wing = run < 0 || run >= MOST ? null : text.wingNumbered(wings[run]);
            if (wing == null) {
                return false;
            }
            long lift = solver.restLift(text, wing, speeds[run], slants[run], unturned);
            long right = putRight(run);
            return lift != NO_FORCE && Math.abs(lift - right) <= Math.abs(right) / 10 + 20;
        }

        private boolean isVoid(int run, int known) {
            for (int row = run + 1; row < known && row < MOST; row++) {
                if (voidOf[row] == run) {
                    return true;
                }
            }
            return false;
        }

        private int outBy(Text text, int known) {
            for (int run = 0; run < known && run < MOST; run++) {
                if (voidOf[run] == NONE && !isVoid(run, known) && !isFit(text, run)) {
                    return run;
                }
            }
            return -2;
        }

        private int nextPlace(Text[] texts, boolean[] outs, int wing) {
            int found = -2;
            long widest = -1;
            for (int v = 10; v <= FARTHEST_SPEED; v += 10) {
                for (int s = -FARTHEST_SLANT; s <= FARTHEST_SLANT; s += 5) {
                    long apart = spreadAt(texts, outs, wing, v, s);
                    if (apart > widest) {
                        widest = apart;
                        found = 100 * v + s;
                    }
                }
            }
            return found;
        }

        /** How far apart the texts' lifts are at a place; NONE if fewer than two tell one. */
        private long spreadAt(Text[] texts, boolean[] outs, int wing, int v, int s) {
            long least = 0;
            long greatest = 0;
            int telling = 0;
            for (int i = 0; i < texts.length && i < outs.length; i++) {
                Wing flown = outs[i] ? null : texts[i].wingNumbered(wing);
                if (flown == null) {
                    continue;
                }
                long lift = solver.restLift(texts[i], flown, v, s, unturned);
                if (lift != NO_FORCE) {
                    least = telling == 0 ? lift : Math.min(least, lift);
                    greatest = telling == 0 ? lift : Math.max(greatest, lift);
                    telling++;
                }
            }
            return telling < 2 ? NONE : greatest - least;
        }
    }
}
