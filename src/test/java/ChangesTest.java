import java.util.function.Supplier;
import java.util.function.ToLongFunction;

/**
 * What each call that changes something changes, and that it leaves all the rest as it
 * is: the TERMS, THE WAY, THE PAPER, RACKS, PAID, THE TAPE, THE IMAGE are looked at each.
 */
public final class ChangesTest {
    public static void main(String[] args) {
        asMade();
        newTerms();
        texts();
        readTexts();
        paper();
        paid();
        racks();
        image();
        undo();
        ofAll();
        ofNone();
        Dues.end("ChangesTest");
    }

    private static void some(String call, ToLongFunction<TariffBoxes> asked, long want, String... changed) {
        Sight.changes("some: " + call, States::some, asked, want, changed);
    }

    private static void full(String call, ToLongFunction<TariffBoxes> asked, long want, String... changed) {
        Sight.changes("full: " + call, States::full, asked, want, changed);
    }

    private static void bare(String call, ToLongFunction<TariffBoxes> asked, long want, String... changed) {
        Sight.changes("new: " + call, States::bare, asked, want, changed);
    }

    /** All of States.some() by hand: the calls that make it and those that look at it change nothing else. */
    private static void asMade() {
        String first = "0 7 -5 -5 1 0 -5 1 -5 -5 -5 1 0 -5 2 -5 0 -5 2 1 131302 ";
        String rest = "6 5 0 -5 2 1 242413 3 -5 2 1 4 2 -5 7 -5 0 2 4 2 -5 4 -5 2 0 4 2 -5 5 -5 3 2 5 2 -5 ";
        String terms = "8 1 5 " + first + rest;
        String way = "2 4 0 ";
        String paper = "15 47 40 63 49 51 49 51 48 50 40 55 41 44 45 41 ";
        String no = TariffBoxes.NO + " ";
        String racks = "-13 0 0 0 0 0 0 0 0 -3 " + no + "-13 " + no + "-13 1 3 1 3 0 2 7 " + no + "-11 " + no;
        String paid = "2 0 -5 0 -5 1 7 0 -5 ";
        String tape = "7 8 2 3 0 3 0 12 -5 -5 1 0 -5 0 34 -5 -5 1 0 -5 4 -5 0 1 3 1 -5 " + way;
        String image = "3 3 1 2 " + first + "1 0 -5 100 0 100 0 ";
        Dues.same("as made", Sight.all(States.some()), String.join("; ", terms, way, paper, racks, paid, tape, image));
        Dues.same("new", Sight.all(States.bare()), "0 0 0 ; 0 ; 0 ; -11 " + no + "-11 " + no + "-11 " + no + "-11 " + no
            + "; 0 ; 0 1 -100 0 0 0 0 ; -3 ");
    }

    /** With another text on THE TAPE than the one that States.some() has. */
    private static Supplier<TariffBoxes> told(String text) {
        return () -> {
            TariffBoxes x = States.some();
            x.clear();
            Dues.feed(x, text);
            return x;
        };
    }

    private static void newTerms() {
        some("flat", x -> x.flat(3), 8, "terms");
        some("empty", TariffBoxes::empty, 8, "terms");
        some("when", x -> x.when(7, 131302), 8, "terms");
        some("cap", x -> x.cap(7, 131302, 9), 8, "terms");
        for (int kind : new int[] {3, 4, 5, 7}) {
            some("two of kind " + kind, x -> x.two(kind, 7, 0), 8, "terms");
        }
        some("drop", TariffBoxes::drop, 7, "terms");
    }

    private static void texts() {
        some("feed", x -> x.feed('5'), 8, "tape");
        some("clear", TariffBoxes::clear, 7, "tape");
        Sight.changes("clear of none", told(""), TariffBoxes::clear, 0);
    }

    private static void readTexts() {
        some("read of a fault", TariffBoxes::read, -107, "way", "tape");
        Sight.changes("read of new ones", told("+(12,34)"), TariffBoxes::read, 10, "terms", "tape");
        Sight.changes("read of one that was there", told("#4"), TariffBoxes::read, 4, "tape");
        Sight.changes("read of too great a one", told("+(+(#7,#7),+(#7,+(#7,+(#7,+(#7,#7)))))"), TariffBoxes::read, -4,
            "tape");
        Sight.changes("read of none", told(""), TariffBoxes::read, -100, "way");
        full("read without room", TariffBoxes::read, -4, "tape");
    }

    private static void paper() {
        some("spell", x -> x.spell(5), 15, "paper");
        some("spell of the one that is there", x -> x.spell(4), 15);
        some("spell of a short one", x -> x.spell(1), 1, "paper");
        full("spell of a short one", x -> x.spell(23), 2, "paper");
    }

    private static void paid() {
        some("paid", x -> x.paid(223, 99), 3, "paid");
        some("nothing paid", x -> x.paid(223, -1), 3, "paid");
        some("none paid", x -> x.paid(-1, 0), 0, "paid");
        full("none paid", x -> x.paid(-1, 0), 0, "paid");
    }

    private static void racks() {
        some("another row", x -> x.rack(0, 5), 1, "racks");
        some("a row where none was", x -> x.rack(3, 0), 1, "racks");
        some("put", x -> x.put(0, 3, 44), 1, "racks");
        some("put of what is there", x -> x.put(0, 8, -3), 1);
        some("lay", x -> x.lay(2, 0, 1), 7, "racks");
        some("lay of what is there", x -> x.lay(2, 2, 0), 7);
        some("lay beyond", x -> x.lay(2, 0, 3), -13, "racks");
        full("lay", x -> x.lay(1, 3, 0), -13, "racks");
    }

    private static void image() {
        bare("image", TariffBoxes::image, 0, "image");
        some("image", TariffBoxes::image, 8, "image");
        full("image", TariffBoxes::image, 24, "image");
    }

    private static void undo() {
        some("undo", TariffBoxes::undo, 3, "terms", "paid");
        full("undo", TariffBoxes::undo, 2, "terms", "paid");
    }

    private static void ofAll() {
        full("drop", TariffBoxes::drop, 23, "terms");
        full("clear", TariffBoxes::clear, 60, "tape");
        full("another row", x -> x.rack(3, 70), 1, "racks");
        full("a row where none was", x -> x.rack(0, 1), 1, "racks");
        full("put", x -> x.put(3, 1, 5), 1, "racks");
    }

    private static void ofNone() {
        bare("feed", x -> x.feed('5'), 1, "tape");
        bare("read", TariffBoxes::read, -100);
        bare("paid", x -> x.paid(0, 0), 1, "paid");
        bare("rack", x -> x.rack(0, 0), 1, "racks");
    }
}
