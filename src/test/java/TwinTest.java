import java.util.Random;

/** Long runs of calls by chance, each asked of WingHouse and of its Twin. */
public final class TwinTest {
    private final Check check = new Check();
    private final java.util.TreeMap<String, Integer> told = new java.util.TreeMap<>();

    public static void main(String[] args) {
        int from = args.length > 0 ? Integer.parseInt(args[0]) : 1;
        int to = args.length > 1 ? Integer.parseInt(args[1]) : 120;
        TwinTest test = new TwinTest();
        for (int seed = from; seed <= to && test.check.wrongs() == 0; seed++) {
            test.run(seed);
        }
        if (args.length > 2) {
            test.report();
        }
        test.check.end("TwinTest");
    }

    /** How often each sort of answer came: by it one sees whether the chances reach what they should. */
    private void report() {
        told.forEach((answer, times) -> System.out.println(answer + " " + times));
    }

    private void same(String what, long got, long due) {
        String call = what.split(": ")[1].split(" ")[0];
        boolean few = call.equals("shakes") || call.equals("fits") || call.equals("stays");
        boolean sentinel = due == -1000000000000L || due == -1000000000001L || due == -1000000 || due == -1000000000;
        String answer = due > 0 && !few ? "above 0" : due < -2 && !sentinel ? "below -2" : "" + due;
        told.merge(call + " " + answer, 1, Integer::sum);
        check.same(what, got, due);
    }

    private void run(int seed) {
        Random chance = new Random(seed);
        Texts texts = new Texts(chance);
        WingHouse house = new WingHouse();
        Twin twin = new Twin();
        int calls = 0;
        for (int step = 0; step < 300 && calls < 380 && check.wrongs() == 0; step++) {
            String name = "seed " + seed + " step " + step + ": ";
            if (house.count(0) < 4 && (step < 3 || texts.once(25))) {
                calls += feed(name, texts.text(), house, twin);
            } else if (texts.once(8)) {
                askWild(name, texts, house, twin);
                calls++;
            } else {
                ask(name, chance, texts, house, twin);
                calls++;
            }
        }
    }

    private int feed(String name, String text, WingHouse house, Twin twin) {
        int[][] chunks = Check.chunks(text);
        for (int[] c : chunks) {
            same(name + "feed", house.feed(c[0], c[1], c[2], c[3], c[4]), twin.feed(c[0], c[1], c[2], c[3], c[4]));
        }
        int back = chunks.length * 20 - text.length();
        same(name + "back", house.back(back), twin.back(back));
        int fault = twin.read();
        told.merge("read " + fault, 1, Integer::sum);
        check.same(name + "read " + text, house.read(), fault);
        same(name + "place " + text, house.place(), twin.place());
        return chunks.length + 3;
    }

    private static final int[] FAR = {Integer.MIN_VALUE, Integer.MIN_VALUE + 1, -1000001, -1001, -31, -30, -1, 0, 1, 2, 3,
        4, 7, 9, 10, 11, 15, 30, 31, 40, 41, 60, 500, 501, 1000, 1001, 2000, 1000000, Integer.MAX_VALUE - 1,
        Integer.MAX_VALUE};

    private int far(Texts texts) {
        return FAR[texts.between(0, FAR.length - 1)];
    }

    /** Any number in any place. */
    private void askWild(String name, Texts texts, WingHouse house, Twin twin) {
        int a = far(texts), b = far(texts), c = far(texts), d = far(texts), e = far(texts);
        boolean on = texts.once(2);
        if (texts.once(2)) {
            a = texts.between(0, 1);
        }
        if (texts.once(2)) {
            b = texts.between(1, 40);
        }
        switch (texts.between(0, 28)) {
            case 0: same(name + "back", house.back(a), twin.back(a)); break;
            case 1: same(name + "place", house.place(), twin.place()); break;
            case 2: same(name + "use", house.use(a) ? 1 : 0, twin.use(a) ? 1 : 0); break;
            case 3: same(name + "law", house.law(a, c), twin.law(a, c)); break;
            case 4: same(name + "hinge", house.hinge(a, c) ? 1 : 0, twin.hinge(a, c) ? 1 : 0); break;
            case 5: same(name + "gust", house.gust(a, c) ? 1 : 0, twin.gust(a, c) ? 1 : 0); break;
            case 6: same(name + "solve", house.solve(a, b, c, on), twin.solve(a, b, c, on)); break;
            case 7: same(name + "ground", house.ground(a, b, c, d), twin.ground(a, b, c, d)); break;
            case 8: same(name + "follow", house.follow(a, b, c, d, e), twin.follow(a, b, c, d, e)); break;
            case 9: same(name + "strip", house.strip(a, d, c), twin.strip(a, d, c)); break;
            case 10: same(name + "edge", house.edge(a, c), twin.edge(a, c)); break;
            case 11: same(name + "force", house.force(a, c), twin.force(a, c)); break;
            case 12: same(name + "barred", house.barred(c), twin.barred(c)); break;
            case 13: same(name + "where", house.where(c), twin.where(c)); break;
            case 14: same(name + "curve", house.curve(a, b, c, d), twin.curve(a, b, c, d)); break;
            case 15: same(name + "lift", house.lift(c), twin.lift(c)); break;
            case 16: same(name + "trims", house.trims(a, b, c), twin.trims(a, b, c)); break;
            case 17: same(name + "trim", house.trim(a, b, c, d), twin.trim(a, b, c, d)); break;
            case 18: same(name + "stays", house.stays(a, b, c, d), twin.stays(a, b, c, d)); break;
            case 19: same(name + "fold", house.fold(a, c), twin.fold(a, c)); break;
            case 20: same(name + "shakes", house.shakes(a, b, c), twin.shakes(a, b, c)); break;
            case 21: same(name + "shake", house.shake(a, c), twin.shake(a, c)); break;
            case 22: same(name + "best", house.best(a, b, c, d, e), twin.best(a, b, c, d, e)); break;
            case 23: same(name + "twist", house.twist(c), twin.twist(c)); break;
            case 24: same(name + "run", house.run(a, b, c, d, e), twin.run(a, b, c, d, e)); break;
            case 25: same(name + "annul", house.annul(c), twin.annul(c)); break;
            case 26: same(name + "right", house.right(c), twin.right(c)); break;
            case 27: same(name + "out", house.out(a, c), twin.out(a, c)); same(name + "fits", house.fits(a, c), twin.fits(a, c)); break;
            default: same(name + "next", house.next(a, c), twin.next(a, c)); same(name + "count", house.count(d), twin.count(d)); break;
        }
    }

    private void ask(String name, Random chance, Texts texts, WingHouse house, Twin twin) {
        int wing = texts.once(25) ? texts.between(-1, 4) : chance.nextInt(Math.max(1, twin.count(5)));
        int v = texts.once(30) ? texts.between(-1, 1) * 41 : texts.between(1, 40);
        int s = texts.once(30) ? texts.between(0, 1) * 62 - 31 : texts.between(-30, 30);
        int i = texts.once(20) ? texts.between(-1, 11) : chance.nextInt(Math.max(1, twin.count(10 + wing)));
        int rows = twin.count(2);
        int row = texts.once(15) ? texts.between(-1, rows + 1) : chance.nextInt(Math.max(1, rows));
        int weight = texts.once(3) ? texts.between(-9000, 90000) : texts.between(-300, 3000);
        if (texts.once(2) && twin.lift(s) != -1000000000000L) {
            weight = (int) twin.lift(s) + texts.between(-1, 1);
        }
        switch (texts.between(0, 33)) {
            case 0:
                same(name + "use", house.use(wing) ? 1 : 0, twin.use(wing) ? 1 : 0);
                break;
            case 1:
                int x = texts.between(-1010, 1010) / (texts.once(2) ? 1 : 12);
                same(name + "law", house.law(i, x), twin.law(i, x));
                break;
            case 2:
                same(name + "hinge", house.hinge(row & 3, s / 2) ? 1 : 0, twin.hinge(row & 3, s / 2) ? 1 : 0);
                break;
            case 3:
                same(name + "gust", house.gust(i, s / 3) ? 1 : 0, twin.gust(i, s / 3) ? 1 : 0);
                break;
            case 4:
            case 5:
            case 6:
            case 7:
                boolean on = texts.once(2);
                same(name + "solve", house.solve(wing, v, s, on), twin.solve(wing, v, s, on));
                break;
            case 8:
            case 9:
                int h = texts.between(0, 21);
                same(name + "ground", house.ground(wing, v, s, h), twin.ground(wing, v, s, h));
                break;
            case 10:
            case 11:
                int leader = texts.between(0, 3);
                int o = texts.between(-21, 21);
                same(name + "follow", house.follow(wing, v, s, leader, o), twin.follow(wing, v, s, leader, o));
                break;
            case 12:
            case 13:
                for (int what = -1; what < 5; what++) {
                    same(name + "strip", house.strip(wing, i, what), twin.strip(wing, i, what));
                }
                break;
            case 14:
                same(name + "edge", house.edge(wing, i), twin.edge(wing, i));
                break;
            case 15:
            case 16:
                int force = texts.once(9) ? texts.between(-1, 3) : texts.between(0, 2);
                same(name + "force", house.force(wing, force), twin.force(wing, force));
                break;
            case 17:
            case 18:
                same(name + "barred", house.barred(wing), twin.barred(wing));
                same(name + "where", house.where(wing), twin.where(wing));
                break;
            default:
                askMore(name, new int[] {wing, v, s, i, row, weight}, texts, house, twin);
                break;
        }
    }

    private void askMore(String name, int[] by, Texts texts, WingHouse house, Twin twin) {
        int wing = by[0], v = by[1], s = by[2], i = by[3], row = by[4], weight = by[5];
        switch (texts.between(0, 14)) {
            case 0:
            case 1:
                int to = texts.between(-31, 31);
                same(name + "curve", house.curve(wing, v, s, to), twin.curve(wing, v, s, to));
                break;
            case 2:
                same(name + "lift", house.lift(s), twin.lift(s));
                break;
            case 3:
                int found = twin.trims(wing, v, weight);
                same(name + "trims", house.trims(wing, v, weight), found);
                for (int k = -1; k <= Math.min(3, found); k++) {
                    same(name + "trim", house.trim(wing, v, weight, k), twin.trim(wing, v, weight, k));
                    same(name + "stays", house.stays(wing, v, weight, k), twin.stays(wing, v, weight, k));
                }
                break;
            case 4:
                same(name + "fold", house.fold(wing, s), twin.fold(wing, s));
                break;
            case 5:
                same(name + "shakes", house.shakes(wing, v, s), twin.shakes(wing, v, s));
                break;
            case 6:
                same(name + "shake", house.shake(wing, s), twin.shake(wing, s));
                break;
            case 7:
                int strips = 0;
                for (int k = texts.once(9) ? 5 : texts.between(0, 3); k > 0; k--) {
                    strips |= 1 << texts.between(0, texts.once(9) ? 10 : Math.max(0, twin.count(10 + wing) - 1));
                }
                int least = texts.once(2) ? -1000000 : weight;
                same(name + "best", house.best(wing, v, s, strips, least), twin.best(wing, v, s, strips, least));
                for (int k = -1; k < 11; k++) {
                    same(name + "twist", house.twist(k), twin.twist(k));
                }
                break;
            case 8:
            case 9:
                int wall = texts.between(0, texts.once(9) ? 510 : 500);
                int near = weight;
                if (twin.solve(wing, v, s, false) >= 0) {
                    near = (int) twin.force(wing, 0) + texts.between(-30, 30);
                }
                same(name + "solve", house.solve(wing, v, s, false), twin.solve(wing, v, s, false));
                same(name + "run", house.run(wing, v, s, near, wall), twin.run(wing, v, s, near, wall));
                break;
            case 10:
                same(name + "annul", house.annul(row), twin.annul(row));
                break;
            case 11:
                same(name + "right", house.right(row), twin.right(row));
                same(name + "fits", house.fits(i & 3, row), twin.fits(i & 3, row));
                break;
            case 12:
                same(name + "out", house.out(i & 3, row), twin.out(i & 3, row));
                break;
            case 13:
                int known = texts.once(2) ? 0 : row;
                same(name + "next", house.next(wing, known), twin.next(wing, known));
                break;
            default:
                for (int what = -1; what < 15; what++) {
                    same(name + "count", house.count(what), twin.count(what));
                }
                break;
        }
    }
}
