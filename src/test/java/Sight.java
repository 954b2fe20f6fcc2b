import java.util.ArrayList;
import java.util.Arrays;
import java.util.List;
import java.util.function.Supplier;
import java.util.function.ToLongFunction;

/** Looks at all that can be seen of an object, and at what a call changed of it. */
final class Sight {
    /** What is looked at, in this order. */
    private static final String[] PARTS = {"terms", "way", "paper", "racks", "paid", "tape", "image"};
    /** An object is good for 512 calls; States and the call that is looked at take the others. */
    private static final int MOST_CALLS = 380;

    private final TariffBoxes x;
    private final List<String> parts = new ArrayList<>();
    private StringBuilder seen = new StringBuilder();
    private int calls = 0;

    private Sight(TariffBoxes x) {
        this.x = x;
    }

    /** A call's answer, and that it leaves all as it is of an object made alike. */
    static void leaves(String call, Supplier<TariffBoxes> made, ToLongFunction<TariffBoxes> asked, long want) {
        changes(call, made, asked, want);
    }

    /** A call's answer, and that it changes just these parts of an object made alike. */
    static void changes(String call, Supplier<TariffBoxes> made, ToLongFunction<TariffBoxes> asked, long want,
            String... changed) {
        TariffBoxes x = made.get();
        Dues.due(call, asked.applyAsLong(x), want);
        List<String> behind = parts(x);
        List<String> before = parts(made.get());
        for (int k = 0; k < PARTS.length; k++) {
            boolean due = Arrays.asList(changed).contains(PARTS[k]);
            if (due) {
                Dues.due(call + " changes " + PARTS[k], behind.get(k).equals(before.get(k)) ? 0 : 1, 1);
            } else {
                Dues.same(call + " leaves " + PARTS[k], behind.get(k), before.get(k));
            }
        }
    }

    /** That two calls, or rows of them, leave the same of objects made alike. */
    static void alike(String call, Supplier<TariffBoxes> made, ToLongFunction<TariffBoxes> one,
            ToLongFunction<TariffBoxes> other) {
        TariffBoxes x = made.get();
        TariffBoxes y = made.get();
        one.applyAsLong(x);
        other.applyAsLong(y);
        Dues.same(call + " leaves", all(x), all(y));
    }

    /** All that is seen; the object is used up by it. */
    static String all(TariffBoxes x) {
        return String.join("; ", parts(x));
    }

    private static List<String> parts(TariffBoxes x) {
        Sight sight = new Sight(x);
        sight.terms();
        sight.end();
        sight.way();
        sight.end();
        sight.paper();
        sight.end();
        sight.racks();
        sight.end();
        sight.paid();
        sight.end();
        sight.tape();
        sight.end();
        sight.image();
        sight.end();
        Dues.due("parts", sight.parts.size(), PARTS.length);
        Dues.due("calls are few enough", sight.calls <= MOST_CALLS ? 1 : 0, 1);
        return sight.parts;
    }

    private void end() {
        parts.add(seen.toString());
        seen = new StringBuilder();
    }

    private long note(long answer) {
        calls++;
        seen.append(answer).append(' ');
        return answer;
    }

    /** Of many TERMS the SIZE and the DEPTH, which follow from the rest, are left out: calls are few. */
    private void terms() {
        long many = note(x.count(0));
        note(x.count(4));
        note(x.count(5));
        for (int term = 0; term < many; term++) {
            for (int what = 0; what < 7; what++) {
                if (many <= 12 || what < 4 || what == 6) {
                    note(x.of(term, what));
                }
            }
        }
    }

    private void way() {
        long many = note(x.way(-1));
        for (int k = 0; k < many; k++) {
            note(x.way(k));
        }
    }

    private void paper() {
        long length = note(x.count(3));
        for (int i = 0; i < length; i++) {
            note(x.paper(i));
        }
    }

    private void racks() {
        for (int rack = 0; rack < 4; rack++) {
            note(x.put(rack, -1, 0));
            int i = 0;
            while (note(x.get(rack, i)) != Long.MIN_VALUE) {
                i++;
            }
        }
    }

    /** What is in PAID shows in what fits it. */
    private void paid() {
        note(x.count(1));
        int many = x.count(0);
        calls++;
        for (int term = 0; term < Math.min(many, 4); term++) {
            note(x.fits(0, term, 0));
            note(x.fits(0, term, 1));
        }
    }

    /** Ends the text and reads it: without other TERMS, so that these don't show in what it tells. */
    private void tape() {
        note(x.count(2));
        while (x.drop() >= 0) {
            calls++;
        }
        calls++;
        note(x.feed(')'));
        note(x.read());
        terms();
        way();
    }

    private void image() {
        if (note(x.undo()) >= 0) {
            terms();
            paid();
        }
    }
}
