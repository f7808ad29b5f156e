import java.util.ArrayList;
import java.util.List;
import java.util.function.Supplier;
import java.util.function.ToLongFunction;

/** All that can be asked of a house, so that two of them can be told apart. Asking uses the house up. */
final class Seen {
    private final WingHouse house;
    private final List<String> rows = new ArrayList<>();

    private Seen(WingHouse house) {
        this.house = house;
    }

    static List<String> of(WingHouse house, boolean withTape) {
        Seen seen = new Seen(house);
        seen.outside();
        if (withTape) {
            seen.put("place", house.place());
            seen.put("tape", house.count(7));
        }
        int hand = house.count(1);
        for (int t = 0; t < house.count(0); t++) {
            house.use(t);
            seen.text(t);
        }
        house.use(hand);
        seen.tunnel();
        if (withTape) {
            seen.put("read", house.read());
            seen.put("place of read", house.place());
        }
        return seen.rows;
    }

    /** Says what a call answers, and that a house on which it was made is like one on which it was not. */
    static void nothing(Check check, String what, Supplier<WingHouse> base, ToLongFunction<WingHouse> call, long due) {
        WingHouse asked = base.get();
        check.same(what, call.applyAsLong(asked), due);
        alike(check, what, of(asked, true), of(base.get(), true));
    }

    static void alike(Check check, String what, List<String> got, List<String> due) {
        check.same(what + ": rows", got.size(), due.size());
        for (int i = 0; i < Math.min(got.size(), due.size()); i++) {
            check.yes(what + ": happened to " + due.get(i) + ", it is " + got.get(i), got.get(i).equals(due.get(i)));
        }
    }

    private void put(String what, long value) {
        rows.add(what + " " + value);
    }

    private void outside() {
        for (int what = 0; what < 3; what++) {
            put("count " + what, house.count(what));
        }
        for (int i = 0; i < 10; i++) {
            put("twist " + i, house.twist(i));
        }
        for (int s = -30; s <= 30; s++) {
            put("lift " + s, house.lift(s));
        }
    }

    private void text(int t) {
        for (int what = 3; what < 7; what++) {
            put("text " + t + " count " + what, house.count(what));
        }
        for (int k = 0; k < house.count(3); k++) {
            put("text " + t + " law " + k, house.law(k, 5));
        }
        for (int w = 0; w < house.count(5); w++) {
            wing("text " + t + " wing " + w, w);
        }
    }

    private void wing(String name, int w) {
        int strips = house.count(10 + w);
        put(name + " strips", strips);
        for (int i = 0; i < strips; i++) {
            for (int what = 0; what < 4; what++) {
                put(name + " strip " + i + " " + what, house.strip(w, i, what));
            }
        }
        for (int what = 0; what < 3; what++) {
            put(name + " force " + what, house.force(w, what));
        }
        put(name + " barred", house.barred(w));
        put(name + " where", house.where(w));
        // On from the last G's, then from rest: by it HINGES and GUSTS are seen too.
        put(name + " on", house.solve(w, 10, 3, true));
        put(name + " its G", house.strip(w, 0, 0));
        put(name + " from rest", house.solve(w, 10, 3, false));
        for (int i = 0; i < strips; i++) {
            put(name + " ANGLE " + i, house.strip(w, i, 3));
        }
    }

    private void tunnel() {
        int known = house.count(2);
        for (int r = 0; r < Math.min(known, 5); r++) {
            put("right " + r, house.right(r));
        }
        for (int t = 0; t < house.count(0); t++) {
            put("out " + t, house.out(t, known));
            put("fits " + t, house.fits(t, 0));
        }
    }
}
