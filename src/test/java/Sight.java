import java.util.function.Supplier;
import java.util.function.ToLongFunction;

/** Looks at all that can be seen of an object, and whether a call changed it. */
final class Sight {
    /** An object is good for 512 calls; States and the call that is looked at take the others. */
    private static final int MOST_CALLS = 380;

    private final TariffBoxes x;
    private final StringBuilder seen = new StringBuilder();
    private int calls = 0;

    private Sight(TariffBoxes x) {
        this.x = x;
    }

    /** A call's answer, and that it leaves all as it is of an object made alike. */
    static void leaves(String call, Supplier<TariffBoxes> made, ToLongFunction<TariffBoxes> asked, long want) {
        TariffBoxes x = made.get();
        Dues.due(call, asked.applyAsLong(x), want);
        Dues.same(call + " leaves", all(x), all(made.get()));
    }

    /** That two calls, or rows of them, leave the same of objects made alike. */
    static void alike(String call, Supplier<TariffBoxes> made, ToLongFunction<TariffBoxes> one,
            ToLongFunction<TariffBoxes> other) {
        TariffBoxes x = made.get();
        TariffBoxes y = made.get();
        one.applyAsLong(x);
        other.applyAsLong(y);
        Dues.same(call + " leaves", all(x), all(y));
    }

    /** All that is seen; the object is used up by it. */
    static String all(TariffBoxes x) {
        Sight sight = new Sight(x);
        sight.terms(0);
        sight.way();
        sight.paper();
        sight.racks();
        sight.paid();
        sight.tape();
        sight.image();
        Dues.due("calls are few enough", sight.calls <= MOST_CALLS ? 1 : 0, 1);
        return sight.seen.toString();
    }

    private long note(long answer) {
        calls++;
        seen.append(answer).append(' ');
        return answer;
    }

    /** Of many TERMS the SIZE and the DEPTH, which follow from the rest, are left out: calls are few. */
    private void terms(int from) {
        for (int what = 0; what < 6; what++) {
            note(x.count(what));
        }
        int many = x.count(0);
        for (int term = from; term < many; term++) {
            for (int what = 0; what < 7; what++) {
                if (many <= 12 || what < 4 || what == 6) {
                    note(x.of(term, what));
                }
            }
        }
        seen.append("; ");
    }

    private void way() {
        long many = note(x.way(-1));
        for (int k = 0; k < many; k++) {
            note(x.way(k));
        }
        seen.append("; ");
    }

    private void paper() {
        int length = x.count(3);
        for (int i = 0; i < length; i++) {
            note(x.paper(i));
        }
        seen.append("; ");
    }

    private void racks() {
        for (int rack = 0; rack < 4; rack++) {
            note(x.put(rack, -1, 0));
            int i = 0;
            while (note(x.get(rack, i)) != Long.MIN_VALUE) {
                i++;
            }
        }
        seen.append("; ");
    }

    /** What is in PAID shows in what fits it. */
    private void paid() {
        int many = x.count(0);
        for (int term = 0; term < Math.min(many, 4); term++) {
            note(x.fits(0, term, 0));
            note(x.fits(0, term, 1));
        }
        seen.append("; ");
    }

    /** Ends the text, makes room for what it tells, and reads it. */
    private void tape() {
        note(x.feed(')'));
        while (x.count(0) > 12) {
            calls += 2;
            x.drop();
        }
        int many = x.count(0);
        note(x.read());
        terms(many);
        way();
    }

    private void image() {
        note(x.undo());
        terms(0);
        paid();
    }
}
