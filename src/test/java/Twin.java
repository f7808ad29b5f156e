import java.util.ArrayList;
import java.util.Arrays;
import java.util.HashMap;
import java.util.HashSet;
import java.util.List;
import java.util.Map;
import java.util.Set;

/**
 * A second WingHouse, told straight from the document and in another way than the first:
 * SYNTAX by an Earley recogniser of the document's grammar, ROOM by counting tokens,
 * the sums term by term. It is slow, makes many objects and is used by the tests alone.
 */
final class Twin {
    static final int NONE = -1;
    private static final long M = 14549535L;

    // ---- tokens ----

    private static final Set<String> WORDS = new HashSet<>(Arrays.asList(
            "law drag hinge wing deep stiff sweep mass bar if on or and not slant lift width twist at speed bend down"
                    .split(" ")));

    private static final class Token {
        final String kind;
        final String text;
        final int from;

        Token(String kind, String text, int from) {
            this.kind = kind;
            this.text = text;
            this.from = from;
        }

        int value() {
            return Integer.parseInt(text);
        }
    }

    private static List<Token> tokens(byte[] tape, int length) {
        List<Token> all = new ArrayList<>();
        int i = 0;
        while (i < length) {
            int c = tape[i] & 255;
            if (c == 9 || c == 10 || c == 13 || c == 32) {
                i++;
                continue;
            }
            int to = i + 1;
            String kind;
            if (c >= 'a' && c <= 'z') {
                while (to < length && tape[to] >= 'a' && tape[to] <= 'z') {
                    to++;
                }
                String name = new String(tape, i, to - i, java.nio.charset.StandardCharsets.ISO_8859_1);
                kind = WORDS.contains(name) ? name : to - i <= 8 ? "NAME" : "BAD";
            } else if (c >= '0' && c <= '9') {
                while (to < length && tape[to] >= '0' && tape[to] <= '9') {
                    to++;
                }
                kind = to - i <= 4 ? "INT" : "BAD";
            } else {
                String two = i + 1 < length ? "" + (char) c + (char) (tape[i + 1] & 255) : "";
                if (two.equals("==") || two.equals("!=") || two.equals("<=")) {
                    kind = two;
                    to = i + 2;
                } else {
                    kind = ";:,+-*/<()".indexOf(c) >= 0 ? "" + (char) c : "BAD";
                }
            }
            all.add(new Token(kind, new String(tape, i, to - i, java.nio.charset.StandardCharsets.ISO_8859_1), i));
            i = to;
        }
        all.add(new Token("END", "", length));
        return all;
    }

    // ---- the grammar, as told ----

    private static final String[] GRAMMAR = {
        "text =", "text = text tell",
        "tell = kind NAME : point , point points ;", "kind = law", "kind = drag",
        "points =", "points = points , point", "point = sint sint",
        "tell = hinge NAME INT ;",
        "tell = wing NAME : strip strips makes ;",
        "strips =", "strips = strips , strip", "strip = INT NAME NAME sint on?",
        "on? =", "on? = on NAME",
        "makes =", "makes = makes make",
        "make = deep INT", "make = stiff INT", "make = sweep sint", "make = mass INT INT INT INT",
        "tell = bar NAME if cond ;",
        "sint = INT", "sint = - INT",
        "cond = all", "cond = cond or all", "all = lit", "all = all and lit",
        "lit = not lit", "lit = e == e", "lit = e != e", "lit = e < e", "lit = e <= e",
        "e = part", "e = e + part", "e = e - part",
        "part = unit", "part = part * unit", "part = part / unit",
        "unit = INT", "unit = var", "unit = ( e )",
        "var = slant", "var = lift", "var = width", "var = twist", "var = at", "var = speed", "var = bend",
        "var = down"
    };
    private static final String[][] RULES = new String[GRAMMAR.length][];
    private static final Map<String, List<Integer>> RULES_OF = new HashMap<>();

    static {
        for (int r = 0; r < GRAMMAR.length; r++) {
            // "lit = e == e" has its "=" behind the first word.
            String[] sides = GRAMMAR[r].split(" = | =$", 2);
            RULES[r] = sides.length < 2 || sides[1].isEmpty() ? new String[0] : sides[1].split(" ");
            RULES_OF.computeIfAbsent(sides[0], x -> new ArrayList<>()).add(r);
        }
    }

    private static String leftOf(int rule) {
        return GRAMMAR[rule].substring(0, GRAMMAR[rule].indexOf(' '));
    }

    /** The index of the first token with which no text goes on, or -1. */
    private static int syntaxAt(List<Token> all) {
        List<Set<Long>> sets = new ArrayList<>();
        sets.add(new HashSet<>());
        for (int i = 0; i < all.size(); i++) {
            List<Long> items = new ArrayList<>();
            Set<Long> seen = sets.get(i);
            if (i == 0) {
                for (int r : RULES_OF.get("text")) {
                    put(items, seen, item(r, 0, 0));
                }
            } else {
                items.addAll(seen);
            }
            boolean whole = false;
            Set<Long> next = new HashSet<>();
            for (int n = 0; n < items.size(); n++) {
                long item = items.get(n);
                int rule = (int) (item >> 32);
                int dot = (int) (item >> 16 & 0xffff);
                int origin = (int) (item & 0xffff);
                String[] right = RULES[rule];
                if (dot == right.length) {
                    String left = leftOf(rule);
                    whole |= left.equals("text") && origin == 0;
                    List<Long> waiting = origin == i ? new ArrayList<>(items) : new ArrayList<>(sets.get(origin));
                    for (long old : waiting) {
                        int oldRule = (int) (old >> 32);
                        int oldDot = (int) (old >> 16 & 0xffff);
                        if (oldDot < RULES[oldRule].length && RULES[oldRule][oldDot].equals(left)) {
                            put(items, seen, item(oldRule, oldDot + 1, (int) (old & 0xffff)));
                        }
                    }
                } else if (RULES_OF.containsKey(right[dot])) {
                    boolean empty = false;
                    for (int r : RULES_OF.get(right[dot])) {
                        put(items, seen, item(r, 0, i));
                        empty |= RULES[r].length == 0;
                    }
                    if (empty) {
                        put(items, seen, item(rule, dot + 1, origin));
                    }
                } else if (right[dot].equals(all.get(i).kind)) {
                    next.add(item(rule, dot + 1, origin));
                }
            }
            if (all.get(i).kind.equals("END")) {
                return whole ? -1 : i;
            }
            if (next.isEmpty()) {
                return i;
            }
            sets.add(next);
        }
        return -1;
    }

    private static void put(List<Long> items, Set<Long> seen, long item) {
        if (seen.add(item)) {
            items.add(item);
        }
    }

    private static long item(int rule, int dot, int origin) {
        return (long) rule << 32 | (long) dot << 16 | origin;
    }

    /** The index of the first token for which there is no ROOM, or -1; behind tells of a comma one too many. */
    private static int roomAt(List<Token> all, boolean[] behind) {
        int laws = 0, hinges = 0, wings = 0, bars = 0, commas = 0, nested = 0;
        String tell = "";
        for (int i = 0; i < all.size(); i++) {
            String kind = all.get(i).kind;
            if (commas == 8 && (tell.equals("law") || tell.equals("drag")) || commas == 10 && tell.equals("wing")) {
                behind[0] = true;
                return i;
            }
            if (kind.equals("END")) {
                return -1;
            }
            if (i == 500) {
                return i;
            }
            switch (kind) {
                case "law":
                case "drag":
                    laws++;
                    tell = kind;
                    commas = 0;
                    break;
                case "hinge":
                    hinges++;
                    tell = kind;
                    break;
                case "wing":
                    wings++;
                    tell = kind;
                    commas = 0;
                    break;
                case "bar":
                    bars++;
                    tell = kind;
                    break;
                case ",":
                    commas++;
                    break;
                case "(":
                    nested++;
                    break;
                case ")":
                    nested--;
                    break;
                default:
                    break;
            }
            if (laws == 9 || hinges == 5 || wings == 5 || bars == 9 || nested == 7) {
                return i;
            }
        }
        return -1;
    }

    // ---- texts ----

    static final class LawTold {
        final List<int[]> points = new ArrayList<>();

        long at(long x) {
            if (x < points.get(0)[0]) {
                return points.get(0)[1];
            }
            for (int i = 0; i + 1 < points.size(); i++) {
                long x0 = points.get(i)[0], y0 = points.get(i)[1];
                long x1 = points.get(i + 1)[0], y1 = points.get(i + 1)[1];
                if (x0 <= x && x < x1) {
                    return y0 + (y1 - y0) * (x - x0) / (x1 - x0);
                }
            }
            return points.get(points.size() - 1)[1];
        }
    }

    static final class StripTold {
        int width, law, drag, twist, hinge = NONE;
    }

    static final class State {
        long[] g, down, bend, angle;
        int v;
        int rounds;
    }

    static final class WingTold {
        final List<StripTold> strips = new ArrayList<>();
        int deep = 200, stiff = 0, sweep = 0;
        int[] mass;
        State last;
    }

    static final class TextTold {
        final List<LawTold> laws = new ArrayList<>();
        final List<int[]> hinges = new ArrayList<>();
        final List<WingTold> wings = new ArrayList<>();
        final List<List<Token>> bars = new ArrayList<>();
        int[] angles;
        int fault, place = Integer.MAX_VALUE;

        void blame(int which, int where) {
            if (where < place || where == place && which < fault) {
                fault = which;
                place = where;
            }
        }
    }

    private static TextTold told(byte[] tape, int length) {
        List<Token> all = tokens(tape, length);
        TextTold text = new TextTold();
        boolean[] behind = new boolean[1];
        int room = roomAt(all, behind);
        int syntax = syntaxAt(all.subList(0, Math.min(all.size(), 502)));
        if (room >= 0 && (syntax < 0 || room < syntax || room == syntax && behind[0])) {
            text.blame(2, all.get(room).from);
            return text;
        }
        if (syntax >= 0) {
            text.blame(1, all.get(syntax).from);
            return text;
        }
        Map<String, String> names = new HashMap<>();
        int i = 0;
        while (!all.get(i).kind.equals("END")) {
            int to = i;
            while (!all.get(to).kind.equals(";")) {
                to++;
            }
            tell(text, names, all.subList(i, to));
            i = to + 1;
        }
        text.angles = new int[text.hinges.size()];
        return text;
    }

    private static int known(TextTold text, Map<String, String> names, Token name, String sort) {
        String is = names.getOrDefault(name.text, "");
        if (!is.startsWith(sort + " ")) {
            text.blame(4, name.from);
            return 0;
        }
        return Integer.parseInt(is.substring(sort.length() + 1));
    }

    private static void tell(TextTold text, Map<String, String> names, List<Token> row) {
        String sort = row.get(0).kind;
        int number = sort.equals("hinge") ? text.hinges.size() : sort.equals("wing") ? text.wings.size()
                : sort.equals("bar") ? text.bars.size() : text.laws.size();
        if (names.containsKey(row.get(1).text)) {
            text.blame(3, row.get(1).from);
        } else {
            names.put(row.get(1).text, sort + " " + number);
        }
        int[] at = {3};
        if (sort.equals("hinge")) {
            check(text, row.get(2), 1, 30);
            text.hinges.add(new int[] {row.get(2).value()});
        } else if (sort.equals("bar")) {
            text.bars.add(row.subList(3, row.size()));
        } else if (sort.equals("wing")) {
            tellWing(text, names, row, at);
        } else {
            LawTold law = new LawTold();
            while (at[0] < row.size()) {
                int x = sint(text, row, at, 90);
                if (!law.points.isEmpty() && x <= law.points.get(law.points.size() - 1)[0]) {
                    text.blame(5, row.get(at[0] - 1).from);
                }
                law.points.add(new int[] {x, sint(text, row, at, 999)});
                at[0]++;
            }
            text.laws.add(law);
        }
    }

    private static void tellWing(TextTold text, Map<String, String> names, List<Token> row, int[] at) {
        WingTold wing = new WingTold();
        boolean more = true;
        while (more) {
            StripTold strip = new StripTold();
            check(text, row.get(at[0]), 1, 9);
            strip.width = row.get(at[0]).value();
            strip.law = known(text, names, row.get(at[0] + 1), "law");
            strip.drag = known(text, names, row.get(at[0] + 2), "drag");
            at[0] += 3;
            strip.twist = sint(text, row, at, 30);
            if (at[0] < row.size() && row.get(at[0]).kind.equals("on")) {
                strip.hinge = known(text, names, row.get(at[0] + 1), "hinge");
                at[0] += 2;
            }
            wing.strips.add(strip);
            more = at[0] < row.size() && row.get(at[0]).kind.equals(",");
            at[0] += more ? 1 : 0;
        }
        while (at[0] < row.size()) {
            String make = row.get(at[0]).kind;
            at[0]++;
            if (make.equals("sweep")) {
                wing.sweep = sint(text, row, at, 9);
            } else if (make.equals("mass")) {
                wing.mass = new int[4];
                for (int i = 0; i < 4; i++) {
                    check(text, row.get(at[0]), 1, 2000);
                    wing.mass[i] = row.get(at[0]++).value();
                }
            } else {
                boolean deep = make.equals("deep");
                check(text, row.get(at[0]), deep ? 50 : 0, 2000);
                if (deep) {
                    wing.deep = row.get(at[0]++).value();
                } else {
                    wing.stiff = row.get(at[0]++).value();
                }
            }
        }
        text.wings.add(wing);
    }

    private static void check(TextTold text, Token number, int low, int high) {
        if (number.value() < low || number.value() > high) {
            text.blame(5, number.from);
        }
    }

    private static int sint(TextTold text, List<Token> row, int[] at, int limit) {
        int sign = 1;
        if (row.get(at[0]).kind.equals("-")) {
            sign = -1;
            at[0]++;
        }
        check(text, row.get(at[0]), 0, limit);
        return sign * row.get(at[0]++).value();
    }

    // ---- bars ----

    private static final class Division extends Exception {
        private static final long serialVersionUID = 1L;
    }

    private static boolean holds(List<Token> condition, Map<String, Integer> vars) {
        for (List<Token> all : split(condition, "or")) {
            boolean every = true;
            for (List<Token> lit : split(all, "and")) {
                every &= literal(lit, vars);
            }
            if (every) {
                return true;
            }
        }
        return false;
    }

    private static List<List<Token>> split(List<Token> row, String by) {
        List<List<Token>> parts = new ArrayList<>();
        int from = 0;
        for (int i = 0; i <= row.size(); i++) {
            if (i == row.size() || row.get(i).kind.equals(by)) {
                parts.add(row.subList(from, i));
                from = i + 1;
            }
        }
        return parts;
    }

    private static boolean literal(List<Token> lit, Map<String, Integer> vars) {
        if (lit.get(0).kind.equals("not")) {
            return !literal(lit.subList(1, lit.size()), vars);
        }
        for (int i = 0; i < lit.size(); i++) {
            String sign = lit.get(i).kind;
            if (sign.equals("==") || sign.equals("!=") || sign.equals("<") || sign.equals("<=")) {
                try {
                    int a = sum(lit.subList(0, i), vars);
                    int b = sum(lit.subList(i + 1, lit.size()), vars);
                    return sign.equals("==") ? a == b : sign.equals("!=") ? a != b : sign.equals("<") ? a < b : a <= b;
                } catch (Division nothing) {
                    return false;
                }
            }
        }
        throw new IllegalStateException();
    }

    /** Splits at the last sign of the lowest rank outside of parentheses. */
    private static int sum(List<Token> row, Map<String, Integer> vars) throws Division {
        for (String signs : new String[] {"+-", "*/"}) {
            int nested = 0;
            for (int i = row.size() - 1; i > 0; i--) {
                String kind = row.get(i).kind;
                nested += kind.equals(")") ? 1 : kind.equals("(") ? -1 : 0;
                if (nested == 0 && kind.length() == 1 && signs.contains(kind)) {
                    int a = sum(row.subList(0, i), vars);
                    int b = sum(row.subList(i + 1, row.size()), vars);
                    if (kind.equals("/") && b == 0) {
                        throw new Division();
                    }
                    return kind.equals("+") ? a + b : kind.equals("-") ? a - b : kind.equals("*") ? a * b : a / b;
                }
            }
        }
        Token only = row.get(0);
        if (only.kind.equals("(")) {
            return sum(row.subList(1, row.size() - 1), vars);
        }
        return only.kind.equals("INT") ? only.value() : vars.get(only.kind);
    }

    // ---- rounds ----

    private static int[] twistsOf(WingTold wing) {
        int[] twists = new int[wing.strips.size()];
        for (int i = 0; i < twists.length; i++) {
            twists[i] = wing.strips.get(i).twist;
        }
        return twists;
    }

    private static long edge(long[] g, int k) {
        return (k < g.length ? g[k] : 0) - (k > 0 ? g[k - 1] : 0);
    }

    /** Null if UNSETTLED. */
    private static State solved(TextTold text, WingTold wing, int v, int s, long[] from, int[] angles, int[] gusts,
            int[] twists, int height, long[] leader, int offset) {
        int n = wing.strips.size();
        long[] g = from.clone();
        State state = new State();
        state.v = v;
        state.down = new long[n];
        state.bend = new long[n];
        state.angle = new long[n];
        for (int round = 1; round <= 120; round++) {
            long[] to = new long[n];
            for (int i = 0; i < n; i++) {
                long own = 0, under = 0, ahead = 0, bent = 0;
                for (int k = 0; k <= n; k++) {
                    long d = 2 * (i - k) + 1;
                    own += edge(g, k) * M / d;
                    if (height > 0) {
                        under += edge(g, k) * M * d / (d * d + 16L * height * height);
                    }
                }
                for (int k = 0; leader != null && k <= leader.length; k++) {
                    ahead += edge(leader, k) * M / (2 * (i - k - offset) + 1);
                }
                for (int j = 0; j <= i; j++) {
                    for (int m = j; m < n; m++) {
                        bent += g[m];
                    }
                }
                StripTold strip = wing.strips.get(i);
                long whole = M * wing.deep;
                state.down[i] = own / whole - under / whole + ahead / whole;
                state.bend[i] = wing.stiff == 0 ? 0 : bent * v * v / (wing.stiff * 1000L);
                state.angle[i] = s + twists[i] + (strip.hinge >= 0 ? angles[strip.hinge] : 0) + gusts[i]
                        - state.down[i] - wing.sweep * state.bend[i] / 10;
                long aim = strip.width * text.laws.get(strip.law).at(state.angle[i]);
                to[i] = g[i] + (aim - g[i]) / 2;
            }
            if (Arrays.equals(g, to)) {
                state.g = g;
                state.rounds = round;
                return state;
            }
            g = to;
        }
        return null;
    }

    private static State fromRest(TextTold text, WingTold wing, int v, int s, int[] angles) {
        return solved(text, wing, v, s, new long[wing.strips.size()], angles, new int[10], twistsOf(wing), 0, null, 0);
    }

    private static long liftOf(State state) {
        long sum = 0;
        for (long g : state.g) {
            sum += g;
        }
        return sum * state.v * state.v / 100;
    }

    private static long dragOf(TextTold text, WingTold wing, State state) {
        long a = 0, b = 0;
        for (int i = 0; i < state.g.length; i++) {
            StripTold strip = wing.strips.get(i);
            a += strip.width * text.laws.get(strip.drag).at(state.angle[i]);
            b += state.g[i] * state.down[i];
        }
        return (a + b / 57) * state.v * state.v / 100;
    }

    /** Bar and strip, or null. */
    private static int[] barredBy(TextTold text, WingTold wing, State state, int[] twists) {
        for (int i = 0; i < state.g.length; i++) {
            Map<String, Integer> vars = new HashMap<>();
            vars.put("slant", (int) state.angle[i]);
            vars.put("lift", (int) state.g[i]);
            vars.put("width", wing.strips.get(i).width);
            vars.put("twist", twists[i]);
            vars.put("at", i);
            vars.put("speed", state.v);
            vars.put("bend", (int) state.bend[i]);
            vars.put("down", (int) state.down[i]);
            for (int bar = 0; bar < text.bars.size(); bar++) {
                if (holds(text.bars.get(bar), vars)) {
                    return new int[] {bar, i};
                }
            }
        }
        return null;
    }

    // ---- the face ----

    private final byte[] tape = new byte[2000];
    private int bytes;
    private final List<TextTold> texts = new ArrayList<>();
    private int place = NONE;
    private int hand = NONE;
    private final int[] gusts = new int[10];
    private Map<Integer, Long> curve = new HashMap<>();
    private Map<Integer, Integer> bestTwists = new HashMap<>();
    private final List<int[]> runs = new ArrayList<>();

    private WingTold wing(int wing) {
        return hand < 0 || wing < 0 || wing >= texts.get(hand).wings.size() ? null : texts.get(hand).wings.get(wing);
    }

    private static boolean no(int v, int low, int high) {
        return v < low || v > high;
    }

    int feed(int a, int b, int c, int d, int e) {
        if (bytes > 1980) {
            return NONE;
        }
        for (int four : new int[] {a, b, c, d, e}) {
            for (int i = 3; i >= 0; i--) {
                tape[bytes++] = (byte) (four >>> 8 * i);
            }
        }
        return bytes;
    }

    int back(int n) {
        return no(n, 0, bytes) ? NONE : (bytes -= n);
    }

    int read() {
        if (texts.size() == 4) {
            return -2;
        }
        TextTold text = told(tape, bytes);
        bytes = 0;
        place = text.fault == 0 ? NONE : text.place;
        if (text.fault == 0) {
            texts.add(text);
            hand = texts.size() - 1;
        }
        return text.fault;
    }

    int place() {
        return place;
    }

    boolean use(int text) {
        if (no(text, 0, texts.size() - 1)) {
            return false;
        }
        hand = text;
        return true;
    }

    int law(int k, int x) {
        if (hand < 0 || no(k, 0, texts.get(hand).laws.size() - 1) || no(x, -1000, 1000)) {
            return -1000000;
        }
        return (int) texts.get(hand).laws.get(k).at(x);
    }

    boolean hinge(int k, int a) {
        if (hand < 0 || no(k, 0, texts.get(hand).hinges.size() - 1)) {
            return false;
        }
        int most = texts.get(hand).hinges.get(k)[0];
        if (no(a, -most, most)) {
            return false;
        }
        texts.get(hand).angles[k] = a;
        return true;
    }

    boolean gust(int i, int g) {
        if (no(i, 0, 9) || no(g, -30, 30)) {
            return false;
        }
        gusts[i] = g;
        return true;
    }

    private int open(int number, int v, int s, long[] from, int height, long[] leader, int offset) {
        WingTold wing = wing(number);
        State state = solved(texts.get(hand), wing, v, s, from, texts.get(hand).angles, gusts, twistsOf(wing), height,
                leader, offset);
        if (state == null) {
            return -2;
        }
        wing.last = state;
        return state.rounds;
    }

    int solve(int number, int v, int s, boolean on) {
        WingTold wing = wing(number);
        if (wing == null || no(v, 1, 40) || no(s, -30, 30)) {
            return NONE;
        }
        long[] rest = new long[wing.strips.size()];
        return open(number, v, s, on && wing.last != null ? wing.last.g : rest, 0, null, 0);
    }

    int ground(int number, int v, int s, int h) {
        if (wing(number) == null || no(v, 1, 40) || no(s, -30, 30) || no(h, 1, 20)) {
            return NONE;
        }
        return open(number, v, s, new long[wing(number).strips.size()], h, null, 0);
    }

    int follow(int number, int v, int s, int leader, int o) {
        WingTold ahead = wing(leader);
        if (wing(number) == null || no(v, 1, 40) || no(s, -30, 30) || no(o, -20, 20)) {
            return NONE;
        }
        if (ahead == null || ahead.last == null || leader == number) {
            return NONE;
        }
        return open(number, v, s, new long[wing(number).strips.size()], 0, ahead.last.g, o);
    }

    private State last(int wing) {
        return wing(wing) == null ? null : wing(wing).last;
    }

    int strip(int wing, int i, int what) {
        State state = last(wing);
        if (state == null || no(i, 0, state.g.length - 1) || no(what, 0, 3)) {
            return -1000000;
        }
        return (int) new long[][] {state.g, state.down, state.bend, state.angle}[what][i];
    }

    int edge(int wing, int k) {
        State state = last(wing);
        return state == null || no(k, 0, state.g.length) ? -1000000 : (int) edge(state.g, k);
    }

    long force(int wing, int what) {
        State state = last(wing);
        if (state == null || no(what, 0, 2)) {
            return -1000000000000L;
        }
        if (what < 2) {
            return what == 0 ? liftOf(state) : dragOf(texts.get(hand), wing(wing), state);
        }
        long sum = 0;
        for (int i = 0; i < state.g.length; i++) {
            sum += state.g[i] * (2 * i + 1 - state.g.length);
        }
        return sum * state.v * state.v / 100;
    }

    private int barring(int wing, int which) {
        if (last(wing) == null) {
            return NONE;
        }
        int[] found = barredBy(texts.get(hand), wing(wing), last(wing), twistsOf(wing(wing)));
        return found == null ? -2 : found[which];
    }

    int barred(int wing) {
        return barring(wing, 0);
    }

    int where(int wing) {
        return barring(wing, 1);
    }

    int curve(int number, int v, int a, int b) {
        WingTold wing = wing(number);
        if (wing == null || no(v, 1, 40) || no(a, -30, 30) || no(b, -30, 30)) {
            return -101;
        }
        curve = new HashMap<>();
        long[] g = new long[wing.strips.size()];
        int stall = -100;
        Long before = null;
        int s = a;
        while (true) {
            State state = solved(texts.get(hand), wing, v, s, g, texts.get(hand).angles, new int[10], twistsOf(wing),
                    0, null, 0);
            if (state != null) {
                g = state.g;
                long now = liftOf(state);
                if (before != null && stall == -100 && (b > a ? now < before : now > before)) {
                    stall = s;
                }
                before = now;
                curve.put(s, now);
            }
            if (s == b) {
                return stall;
            }
            s += b > a ? 1 : -1;
        }
    }

    long lift(int s) {
        return curve.getOrDefault(s, -1000000000000L);
    }

    /** Slants and whether they rise. */
    private List<int[]> trimsOf(int number, int v, int weight) {
        WingTold wing = wing(number);
        if (wing == null || no(v, 1, 40)) {
            return null;
        }
        List<int[]> found = new ArrayList<>();
        State ahead = null;
        for (int s = -30; s <= 30; s++) {
            State state = fromRest(texts.get(hand), wing, v, s, texts.get(hand).angles);
            if (state != null && ahead != null) {
                if (liftOf(state) >= weight && liftOf(ahead) < weight) {
                    found.add(new int[] {s, 1});
                } else if (liftOf(state) < weight && liftOf(ahead) >= weight) {
                    found.add(new int[] {s, 0});
                }
            }
            ahead = state;
        }
        return found;
    }

    int trims(int wing, int v, int weight) {
        List<int[]> found = trimsOf(wing, v, weight);
        return found == null ? NONE : found.size();
    }

    int trim(int wing, int v, int weight, int i) {
        List<int[]> found = trimsOf(wing, v, weight);
        return found == null || no(i, 0, found.size() - 1) ? -101 : found.get(i)[0];
    }

    int stays(int wing, int v, int weight, int i) {
        List<int[]> found = trimsOf(wing, v, weight);
        return found == null || no(i, 0, found.size() - 1) ? NONE : found.get(i)[1];
    }

    int fold(int number, int s) {
        WingTold wing = wing(number);
        if (wing == null || no(s, -30, 30)) {
            return NONE;
        }
        for (int v = 1; v <= 40; v++) {
            State state = fromRest(texts.get(hand), wing, v, s, texts.get(hand).angles);
            if (state == null || Arrays.stream(state.bend).anyMatch(bend -> bend > 90 || bend < -90)) {
                return v;
            }
        }
        return -2;
    }

    private static long held(long x) {
        return x > 1000000 ? 1000000 : x < -1000000 ? -1000000 : x;
    }

    int shakes(int number, int v, int s) {
        WingTold wing = wing(number);
        if (wing == null || wing.mass == null || no(v, 1, 40) || no(s, -30, 30)) {
            return NONE;
        }
        TextTold text = texts.get(hand);
        State state = fromRest(text, wing, v, s, text.angles);
        if (state == null) {
            return -2;
        }
        long sum = 0;
        for (int i = 0; i < state.g.length; i++) {
            LawTold law = text.laws.get(wing.strips.get(i).law);
            sum += wing.strips.get(i).width * (law.at(state.angle[i] + 1) - law.at(state.angle[i] - 1));
        }
        long a = wing.mass[0], b = wing.mass[1], c = wing.mass[2], d = wing.mass[3];
        long p = 0, u = 0, w = 0, q = 1000, greatest = 0;
        for (int time = 1; time <= 120; time++) {
            long f = sum * v * v * q / 1000000;
            long newU = u + f - a * p / 1000 - c * u / 1000;
            long newW = w - f * d / 1000 - b * q / 1000 - c * w / 1000;
            u = held(newU);
            w = held(newW);
            p = held(p + u);
            q = held(q + w);
            if (time > 80 && Math.abs(q) > greatest) {
                greatest = Math.abs(q);
            }
        }
        return greatest > 1000 ? 1 : 0;
    }

    int shake(int wing, int s) {
        if (wing(wing) == null || wing(wing).mass == null || no(s, -30, 30)) {
            return NONE;
        }
        for (int v = 1; v <= 40; v++) {
            if (shakes(wing, v, s) == 1) {
                return v;
            }
        }
        return -2;
    }

    long best(int number, int v, int s, int strips, int least) {
        WingTold wing = wing(number);
        if (wing == null || no(v, 1, 40) || no(s, -30, 30) || strips < 0 || Integer.bitCount(strips) > 4
                || strips >> wing.strips.size() != 0) {
            return -1000000000000L;
        }
        bestTwists = new HashMap<>();
        Long[] drag = {null};
        tryTwists(wing, v, s, strips, least, twistsOf(wing), 0, drag);
        return drag[0] == null ? -1000000000001L : drag[0];
    }

    private void tryTwists(WingTold wing, int v, int s, int strips, int least, int[] twists, int i, Long[] drag) {
        TextTold text = texts.get(hand);
        if (i == twists.length) {
            State state = solved(text, wing, v, s, new long[i], text.angles, new int[10], twists, 0, null, 0);
            if (state == null || liftOf(state) < least || barredBy(text, wing, state, twists) != null) {
                return;
            }
            if (drag[0] == null || dragOf(text, wing, state) < drag[0]) {
                drag[0] = dragOf(text, wing, state);
                for (int j = 0; j < i; j++) {
                    if ((strips >> j & 1) == 1) {
                        bestTwists.put(j, twists[j]);
                    }
                }
            }
        } else if ((strips >> i & 1) == 0) {
            tryTwists(wing, v, s, strips, least, twists, i + 1, drag);
        } else {
            int own = wing.strips.get(i).twist;
            for (int twist = own - 2; twist <= own + 2; twist++) {
                if (!no(twist, -30, 30)) {
                    int[] other = twists.clone();
                    other[i] = twist;
                    tryTwists(wing, v, s, strips, least, other, i + 1, drag);
                }
            }
        }
    }

    int twist(int i) {
        return bestTwists.getOrDefault(i, -1000);
    }

    int run(int wing, int v, int s, int lift, int wall) {
        if (runs.size() == 60 || no(wing, 0, 3) || no(v, 1, 40) || no(s, -30, 30) || no(lift, -1000000, 1000000)
                || no(wall, 0, 500)) {
            return NONE;
        }
        runs.add(new int[] {wing, v, s, lift, wall});
        return runs.size() - 1;
    }

    private boolean noRun(int run) {
        return no(run, 0, runs.size() - 1) || runs.get(run).length == 1;
    }

    int annul(int run) {
        if (runs.size() == 60 || noRun(run)) {
            return NONE;
        }
        runs.add(new int[] {run});
        return runs.size() - 1;
    }

    int right(int run) {
        return noRun(run) ? -1000000000 : (int) (runs.get(run)[3] * 1000L / (1000 + runs.get(run)[4]));
    }

    int fits(int text, int run) {
        if (no(text, 0, texts.size() - 1) || noRun(run)) {
            return NONE;
        }
        TextTold told = texts.get(text);
        int[] row = runs.get(run);
        if (row[0] >= told.wings.size()) {
            return 0;
        }
        State state = fromRest(told, told.wings.get(row[0]), row[1], row[2], new int[4]);
        long right = right(run);
        return state != null && Math.abs(liftOf(state) - right) <= Math.abs(right) / 10 + 20 ? 1 : 0;
    }

    int out(int text, int n) {
        if (no(text, 0, texts.size() - 1) || no(n, 0, runs.size())) {
            return NONE;
        }
        Set<Integer> voids = new HashSet<>();
        for (int i = 0; i < n; i++) {
            if (runs.get(i).length == 1) {
                voids.add(runs.get(i)[0]);
            }
        }
        for (int i = 0; i < n; i++) {
            if (runs.get(i).length > 1 && !voids.contains(i) && fits(text, i) == 0) {
                return i;
            }
        }
        return -2;
    }

    int next(int wing, int n) {
        if (no(wing, 0, 3) || no(n, 0, runs.size())) {
            return -10000;
        }
        List<TextTold> left = new ArrayList<>();
        for (int i = 0; i < texts.size(); i++) {
            if (out(i, n) == -2 && wing < texts.get(i).wings.size()) {
                left.add(texts.get(i));
            }
        }
        long widest = -1;
        int found = -2;
        for (int v = 10; v <= 40; v += 10) {
            for (int s = -20; s <= 20; s += 5) {
                List<Long> lifts = new ArrayList<>();
                for (TextTold text : left) {
                    State state = fromRest(text, text.wings.get(wing), v, s, new int[4]);
                    if (state != null) {
                        lifts.add(liftOf(state));
                    }
                }
                if (lifts.size() < 2) {
                    continue;
                }
                long apart = java.util.Collections.max(lifts) - java.util.Collections.min(lifts);
                if (apart > widest) {
                    widest = apart;
                    found = 100 * v + s;
                }
            }
        }
        return found;
    }

    int count(int what) {
        if (what == 0 || what == 1 || what == 2 || what == 7) {
            return what == 0 ? texts.size() : what == 1 ? hand : what == 2 ? runs.size() : bytes;
        }
        if (hand < 0) {
            return NONE;
        }
        TextTold text = texts.get(hand);
        switch (what) {
            case 3:
                return text.laws.size();
            case 4:
                return text.hinges.size();
            case 5:
                return text.wings.size();
            case 6:
                return text.bars.size();
            default:
                return what < 10 || wing(what - 10) == null ? NONE : wing(what - 10).strips.size();
        }
    }
}
