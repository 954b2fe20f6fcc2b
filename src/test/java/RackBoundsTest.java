/**
 * The bounds that the document names, of Terms (3) and of promises 29 to 36: the least
 * and the greatest that is taken, the first on either side that is not, empty and
 * full, which answer comes first, and that what is asked or refused changes nothing.
 */
public final class RackBoundsTest {
    private static final int LEAST = Integer.MIN_VALUE;
    private static final int GREATEST = Integer.MAX_VALUE;
    private static final int[] NO_RACKS = {-1, 4, LEAST, GREATEST};
    /** No TERMS of States.some(), which has 8. */
    private static final int[] NO_TERMS = {-1, 8, LEAST, GREATEST};

    public static void main(String[] args) {
        promise29();
        racksBecomeAnew();
        promise30();
        promise31();
        promise32();
        laysOfTenParts();
        laysOfMorePartsThanPlaces();
        laysOfNoParts();
        promise33();
        judgesEachNumber();
        judgesWhatLacks();
        judgesEachCase();
        judgesTheFirstPart();
        promise34And35();
        imagesOfAll();
        imagesFromNone();
        promise36();
        countsAtMost();
        Dues.end("RackBoundsTest");
    }

    private static String row(TariffBoxes x, int rack) {
        StringBuilder text = new StringBuilder();
        for (int i = 0; x.get(rack, i) != TariffBoxes.NO; i++) {
            text.append(i == 0 ? "" : " ").append(x.get(rack, i));
        }
        return text.toString();
    }

    private static void fill(TariffBoxes x, int rack, int... numbers) {
        x.rack(rack, numbers.length);
        for (int i = 0; i < numbers.length; i++) {
            x.put(rack, i, numbers[i]);
        }
    }

    // ---- promises 29 to 31

    private static void promise29() {
        for (int rack : NO_RACKS) {
            for (int n : new int[] {0, 70, 71, -1}) {
                Sight.leaves("rack(" + rack + ", " + n + ")", States::some, x -> x.rack(rack, n), -1);
            }
        }
        for (int rack = 0; rack < 4; rack++) {
            int r = rack;
            Sight.leaves("rack(" + r + ", 71)", States::some, x -> x.rack(r, 71), -2);
            Sight.leaves("rack(" + r + ", GREATEST)", States::some, x -> x.rack(r, GREATEST), -2);
            Sight.leaves("rack(" + r + ", -1)", States::some, x -> x.rack(r, -1), -14);
            Sight.leaves("rack(" + r + ", LEAST)", States::some, x -> x.rack(r, LEAST), -14);
            Dues.due("rack(" + r + ", 0)", States.some().rack(r, 0), 1);
            Dues.due("rack(" + r + ", 70)", States.some().rack(r, 70), 1);
        }
    }

    private static void racksBecomeAnew() {
        for (int n : new int[] {0, 1, 69, 70}) {
            TariffBoxes x = new TariffBoxes();
            x.rack(3, 70);
            for (int i = 0; i < 70; i++) {
                x.put(3, i, i + 1);
            }
            Dues.due("rack(3, " + n + ")", x.rack(3, n), 1);
            for (int i = 0; i < n; i++) {
                Dues.due("all 0", x.get(3, i), 0);
            }
            Dues.due("no more", x.get(3, n), TariffBoxes.NO);
            Dues.due("no more to put", x.put(3, n, 1), -13);
            x.rack(3, 70);
            for (int i = 0; i < 70; i++) {
                Dues.due("all 0 again", x.get(3, i), 0);
            }
            Dues.due("the others hold nothing", x.put(2, 0, 1), -11);
        }
    }

    private static void promise30() {
        for (int rack : NO_RACKS) {
            Sight.leaves("put(" + rack + ", 0, 1)", States::some, x -> x.put(rack, 0, 1), -1);
            Sight.leaves("put(" + rack + ", -1, 1)", States::some, x -> x.put(rack, -1, 1), -1);
        }
        for (int i : new int[] {-1, 0, 1, LEAST, GREATEST}) {
            Sight.leaves("put(3, " + i + ", 1)", States::some, x -> x.put(3, i, 1), -11);
            Sight.leaves("put(1, " + i + ", 1)", States::some, x -> x.put(1, i, 1), -13);
        }
        for (int i : new int[] {-1, 9, 70, LEAST, GREATEST}) {
            Sight.leaves("put(0, " + i + ", 1)", States::some, x -> x.put(0, i, 1), -13);
        }
        for (int v : new int[] {LEAST, -1, 0, 1, GREATEST}) {
            TariffBoxes x = States.some();
            Dues.due("put(0, 0, " + v + ")", x.put(0, 0, v), 1);
            Dues.due("the first place", x.get(0, 0), v);
            Dues.due("put(0, 8, " + v + ")", x.put(0, 8, v), 1);
            Dues.due("the last place", x.get(0, 8), v);
            Dues.same("those between", row(x, 0), v + " 0 0 0 0 0 0 0 " + v);
            Dues.same("another one", row(x, 2), "1 3 1 3 0 2 7");
        }
        for (int rack = 0; rack < 4; rack++) {
            TariffBoxes x = new TariffBoxes();
            x.rack(rack, 1);
            Dues.due("the only place of " + rack, x.put(rack, 0, 4), 1);
            Dues.due("the only place of " + rack, x.get(rack, 0), 4);
            Dues.due("behind it", x.put(rack, 1, 4), -13);
        }
        TariffBoxes y = new TariffBoxes();
        y.rack(0, 70);
        Dues.due("the 70th place", y.put(0, 69, 5), 1);
        Dues.due("the 71st place", y.put(0, 70, 5), -13);
    }

    private static void promise31() {
        for (int rack : NO_RACKS) {
            Sight.leaves("get(" + rack + ", 0)", States::some, x -> x.get(rack, 0), TariffBoxes.NO);
        }
        for (int i : new int[] {-1, 0, LEAST, GREATEST}) {
            Sight.leaves("get(3, " + i + ")", States::some, x -> x.get(3, i), TariffBoxes.NO);
            Sight.leaves("get(1, " + i + ")", States::some, x -> x.get(1, i), TariffBoxes.NO);
        }
        for (int i : new int[] {-1, 9, 70, LEAST, GREATEST}) {
            Sight.leaves("get(0, " + i + ")", States::some, x -> x.get(0, i), TariffBoxes.NO);
        }
        Sight.leaves("get(0, 0)", States::some, x -> x.get(0, 0), 0);
        Sight.leaves("get(0, 8)", States::some, x -> x.get(0, 8), -3);
        TariffBoxes x = new TariffBoxes();
        x.rack(3, 70);
        Dues.due("the 70th place", x.get(3, 69), 0);
        Dues.due("the 71st place", x.get(3, 70), TariffBoxes.NO);
    }

    // ---- promise 32

    private static void promise32() {
        for (int none : NO_TERMS) {
            Sight.leaves("lay(" + none + ", 0, 0)", States::some, x -> x.lay(none, 0, 0), -1);
            Sight.leaves("lay(" + none + ", 3, 0)", States::some, x -> x.lay(none, 3, 0), -1);
            Sight.leaves("lay(" + none + ", 0, -1)", States::some, x -> x.lay(none, 0, -1), -1);
        }
        for (int rack : NO_RACKS) {
            Sight.leaves("lay(0, " + rack + ", 0)", States::some, x -> x.lay(0, rack, 0), -1);
        }
        for (int i : new int[] {-1, 0, 70, LEAST, GREATEST}) {
            Sight.leaves("lay(0, 3, " + i + ")", States::some, x -> x.lay(0, 3, i), -11);
            Sight.leaves("lay(1, 3, " + i + ")", States::some, x -> x.lay(1, 3, i), -11);
        }
        for (int i : new int[] {-1, -7, 9, 70, LEAST, LEAST + 6, GREATEST, GREATEST - 6}) {
            Sight.leaves("lay(2, 0, " + i + ")", States::some, x -> x.lay(2, 0, i), -13);
        }
        for (int i : new int[] {-1, 0, 1, LEAST, GREATEST}) {
            Sight.leaves("lay(2, 1, " + i + ")", States::some, x -> x.lay(2, 1, i), -13);
        }
        String[] due = {"1 3 1 3 0 2 7 0 -3", "0 1 3 1 3 0 2 7 -3", "0 0 1 3 1 3 0 2 7", "0 0 0 1 3 1 3 0 2",
            "0 0 0 0 1 3 1 3 0", "0 0 0 0 0 1 3 1 3", "0 0 0 0 0 0 1 3 1", "0 0 0 0 0 0 0 1 3", "0 0 0 0 0 0 0 0 1"};
        for (int i = 0; i < due.length; i++) {
            TariffBoxes x = States.some();
            Dues.due("lay(2, 0, " + i + ")", x.lay(2, 0, i), i <= 2 ? 7 : -13);
            Dues.same("its row", row(x, 0), due[i]);
            Dues.due("no term more", x.count(0), 8);
            Dues.due("the paper is as it was", x.count(3), 15);
        }
    }

    /** Ten PARTS, seventy numbers: ten CASES apart, the FEES 0, 1, 2 by turns. */
    private static TariffBoxes tenParts() {
        TariffBoxes x = States.flats(3);
        int whole = -1;
        for (int k = 0; k < 10; k++) {
            int rule = x.when(k % 3, 110000 * (k % 8) + 1100 * (3 * k % 7) + 11 * (k % 4));
            whole = whole < 0 ? rule : x.two(3, whole, rule);
        }
        return x;
    }

    private static void laysOfTenParts() {
        TariffBoxes x = tenParts();
        int term = x.count(0) - 1;
        Dues.due("parts", x.part(term, -1, 0), 10);
        for (int rack = 0; rack < 3; rack++) {
            x.rack(rack, rack == 1 ? 69 : 70);
        }
        Dues.due("just all", x.lay(term, 0, 0), 70);
        Dues.due("one place short", x.lay(term, 1, 0), -13);
        Dues.due("one place on", x.lay(term, 2, 1), -13);
        int[] order = {0, 8, 1, 9, 2, 3, 4, 5, 6, 7};
        for (int k = 0; k < 70; k++) {
            int of = order[k / 7];
            int[] sides = {of % 8, of % 8, 3 * of % 7, 3 * of % 7, of % 4, of % 4, of % 3};
            Dues.due("place " + k, x.get(0, k), sides[k % 7]);
            Dues.due("place " + k + " of 69", x.get(1, k), k < 69 ? sides[k % 7] : TariffBoxes.NO);
            Dues.due("place " + (k + 1), x.get(2, k + 1), k < 69 ? sides[k % 7] : TariffBoxes.NO);
        }
        Dues.due("place 0 is left", x.get(2, 0), 0);
        Dues.due("as laid", x.judge(0, term), -5);
        Dues.due("the last fee lacks", x.judge(1, term), 96);
    }

    private static void laysOfMorePartsThanPlaces() {
        TariffBoxes x = States.odd(4);
        int term = x.count(0) - 1;
        x.rack(0, 70);
        Dues.due("224 parts", x.lay(term, 0, 0), -13);
        for (int k = 0; k < 70; k++) {
            Dues.due("place " + k, x.get(0, k), x.part(term, k / 7, k % 7));
        }
        Dues.due("ten parts of 224", x.judge(0, term), 510);
        x.rack(0, 70);
        for (int i : new int[] {-1, -1568, -1567, LEAST, LEAST + 100}) {
            Dues.due("from " + i, x.lay(term, 0, i), -13);
            Dues.due("the first place", x.get(0, 0), 0);
            Dues.due("the last place", x.get(0, 69), 0);
        }
        for (int i : new int[] {70, GREATEST, GREATEST - 1, GREATEST - 1567}) {
            Dues.due("from " + i, x.lay(term, 0, i), -13);
            Dues.due("the first place", x.get(0, 0), 0);
            Dues.due("the last place", x.get(0, 69), 0);
        }
    }

    /** All of nothing is laid wherever it begins. */
    private static void laysOfNoParts() {
        for (int i : new int[] {0, 8, 9, 10, GREATEST, -1, LEAST}) {
            Sight.leaves("lay(1, 0, " + i + ")", States::some, x -> x.lay(1, 0, i), 0);
            Sight.leaves("lay(1, 1, " + i + ")", States::some, x -> x.lay(1, 1, i), 0);
        }
    }

    // ---- promise 33

    private static void promise33() {
        for (int rack : NO_RACKS) {
            Sight.leaves("judge(" + rack + ", 0)", States::some, x -> x.judge(rack, 0), -1);
        }
        for (int none : NO_TERMS) {
            Sight.leaves("judge(2, " + none + ")", States::some, x -> x.judge(2, none), -1);
            Sight.leaves("judge(3, " + none + ")", States::some, x -> x.judge(3, none), -1);
        }
        Sight.leaves("judge(3, 0)", States::some, x -> x.judge(3, 0), -11);
        Sight.leaves("judge(2, 2)", States::some, x -> x.judge(2, 2), -5);
        Sight.leaves("judge(2, 1)", States::some, x -> x.judge(2, 1), 532);
        Sight.leaves("judge(2, 0)", States::some, x -> x.judge(2, 0), 500);
        Sight.leaves("judge(1, 1)", States::some, x -> x.judge(1, 1), -5);
        Sight.leaves("judge(1, 0)", States::some, x -> x.judge(1, 0), 500);
        Sight.leaves("judge(0, 0)", States::some, x -> x.judge(0, 0), 11);
    }

    private static void judgesEachNumber() {
        int[] good = {2, 5, 1, 4, 1, 2, 50};
        int[][] edges = {{0, 5}, {2, 7}, {0, 4}, {1, 6}, {0, 2}, {1, 3}, {0, 99}};
        for (int place = 0; place < 7; place++) {
            for (int part = 0; part < 10; part++) {
                for (int side = 0; side < 2; side++) {
                    int edge = edges[place][side];
                    int beyond = side == 0 ? edge - 1 : edge + 1;
                    // a first one above its last one is told at the last one
                    boolean late = side == 1 && place < 6 && place % 2 == 0;
                    String call = "number " + place + " of part " + part + " ";
                    Dues.due(call + edge, judged(good, 7 * part + place, edge) >= 500 ? 1 : 0, 1);
                    int due = 10 * part + place + (late ? 1 : 0);
                    Dues.due(call + beyond, judged(good, 7 * part + place, beyond), due);
                }
                int far = 10 * part + place;
                Dues.due("the least int", judged(good, 7 * part + place, LEAST), far);
                Dues.due("the greatest int", judged(good, 7 * part + place, GREATEST), far);
            }
        }
    }

    /** Ten like PARTS with one number changed, judged against a TERM that says something else. */
    private static int judged(int[] good, int changed, int v) {
        TariffBoxes x = new TariffBoxes();
        x.empty();
        int[] numbers = new int[70];
        for (int k = 0; k < 70; k++) {
            numbers[k] = k == changed ? v : good[k % 7];
        }
        fill(x, 0, numbers);
        return x.judge(0, 0);
    }

    private static void judgesWhatLacks() {
        for (int n = 0; n <= 70; n++) {
            TariffBoxes x = States.flats(1);
            x.rack(0, n);
            int due = n % 7 == 0 ? n == 0 ? 500 : 501 : n / 7 * 10 + n % 7;
            Dues.due(n + " numbers", x.judge(0, 0), due);
            if (n > 0) {
                x.put(0, n - 1, -1);
                Dues.due("the last of " + n, x.judge(0, 0), (n - 1) / 7 * 10 + (n - 1) % 7);
            }
        }
    }

    private static void judgesEachCase() {
        for (int one = 0; one < 224; one++) {
            TariffBoxes x = States.flats(1);
            int box = 110000 * (one / 28) + 1100 * (one / 4 % 7) + 11 * (one % 4);
            x.when(0, box);
            x.cap(0, box, 0);
            x.flat(1);
            x.two(3, 1, 3);
            fill(x, 0, 0, 7, 0, 6, 0, 3, 1);
            Dues.due("another fee of case " + one, x.judge(0, 4), 500 + one);
            x.two(7, 3, 1);
            Dues.due("nothing of case " + one, x.judge(0, 5), 500 + one);
            x.rack(0, 0);
            Dues.due("something of case " + one, x.judge(0, 1), 500 + one);
            Dues.due("of all alike", x.judge(0, 0), 500);
        }
    }

    private static void judgesTheFirstPart() {
        TariffBoxes x = States.flats(2);
        fill(x, 0, 0, 7, 0, 6, 0, 3, 1, 0, 7, 0, 6, 0, 3, 0);
        Dues.due("the first one counts", x.judge(0, 1), -5);
        Dues.due("the second one does not", x.judge(0, 0), 500);
        fill(x, 0, 0, 7, 0, 6, 0, 2, 1, 0, 7, 0, 6, 0, 3, 0);
        Dues.due("the second one counts where the first one says nothing", x.judge(0, 1), 503);
        fill(x, 0, 0, 7, 0, 6, 0, 2, 1, 0, 7, 0, 6, 3, 3, 1);
        Dues.due("all by two", x.judge(0, 1), -5);
        int[] ten = new int[70];
        for (int k = 0; k < 70; k++) {
            ten[k] = k < 63 ? 0 : new int[] {0, 7, 0, 6, 0, 3, 0}[k - 63];
        }
        fill(x, 0, ten);
        Dues.due("the tenth one counts", x.judge(0, 0), -5);
        ten[69] = 1;
        fill(x, 0, ten);
        Dues.due("the tenth one counts, but not of the first case", x.judge(0, 1), 500);
        Dues.due("the tenth one is another", x.judge(0, 0), 501);
    }

    // ---- promises 34 to 36

    private static void promise34And35() {
        Sight.leaves("no image", States::bare, TariffBoxes::undo, -3);
        Sight.leaves("no image of some", () -> States.flats(3), TariffBoxes::undo, -3);
        Dues.due("image of none", States.bare().image(), 0);
        Dues.due("image of some", States.some().image(), 8);
        Dues.due("image of all", States.full().image(), 24);
        Sight.alike("undo twice", States::some, x -> x.undo() + x.undo(), TariffBoxes::undo);
        Sight.alike("image twice", States::some, x -> x.image() + x.image(), TariffBoxes::image);
        Sight.alike("undo at once", States::full, x -> x.image() + x.undo(), TariffBoxes::image);
        TariffBoxes x = States.some();
        Dues.due("undo", x.undo(), 3);
        Dues.due("terms", x.count(0), 3);
        Dues.due("paid", x.count(1), 1);
        Dues.due("the one paid", x.fits(0, 2, 0), 100);
        Dues.due("the tape stays", x.count(2), 7);
        Dues.due("the way stays", x.way(-1), 2);
        Dues.due("the paper stays", x.count(3), 15);
        Dues.due("its bytes", x.paper(0), '/');
        Dues.same("the racks stay", row(x, 0) + "; " + row(x, 2), "0 0 0 0 0 0 0 0 -3; 1 3 1 3 0 2 7");
        Dues.due("a rack of no places stays", x.put(1, 0, 0), -13);
        Dues.due("a rack of nothing stays", x.put(3, 0, 0), -11);
        Dues.due("the tape is as it was", Dues.tell(x, ")"), 5);
    }

    private static void imagesOfAll() {
        TariffBoxes x = States.full();
        x.image();
        for (int k = 23; k >= 0; k--) {
            x.drop();
        }
        x.paid(-1, 0);
        x.empty();
        x.paid(223, 1);
        Dues.due("undo", x.undo(), 24);
        TariffBoxes y = States.full();
        y.image();
        Dues.same("all is as it was", Sight.all(x), Sight.all(y));
    }

    private static void imagesFromNone() {
        TariffBoxes x = new TariffBoxes();
        Dues.due("image of none", x.image(), 0);
        for (int k = 0; k < 24; k++) {
            x.flat(k);
        }
        for (int k = 0; k < 8; k++) {
            x.paid(k, k);
        }
        Dues.due("undo to none", x.undo(), 0);
        Dues.due("no terms", x.count(0), 0);
        Dues.due("nothing paid", x.count(1), 0);
        Dues.due("no term 0", x.of(0, 0), -1);
        Dues.due("the first again", x.flat(3), 0);
        Dues.due("undo again", x.undo(), 0);
        Dues.due("none to be dropped", x.drop(), -3);
    }

    private static void promise36() {
        for (int what : new int[] {-1, 6, LEAST, GREATEST}) {
            Sight.leaves("count(" + what + ")", States::some, x -> x.count(what), -2);
            Sight.leaves("new: count(" + what + ")", States::bare, x -> x.count(what), -2);
        }
        int[] some = {8, 2, 7, 15, 1, 5};
        int[] full = {24, 8, 60, 10, 2, 40};
        for (int what = 0; what < 6; what++) {
            int w = what;
            Sight.leaves("new: count(" + w + ")", States::bare, x -> x.count(w), 0);
            Sight.leaves("some: count(" + w + ")", States::some, x -> x.count(w), some[w]);
            Sight.leaves("full: count(" + w + ")", States::full, x -> x.count(w), full[w]);
        }
    }

    private static void countsAtMost() {
        TariffBoxes x = States.flats(1);
        Dues.due("size of one alone", x.count(5), 1);
        Dues.due("no when", x.count(4), 0);
        for (int k = 1; k < 24; k++) {
            x.when(k - 1, 70603);
            Dues.due("whens", x.count(4), k);
            Dues.due("size", x.count(5), k + 1);
        }
        Dues.due("spelled", x.spell(23), 208);
        Dues.due("of the paper", x.count(3), 208);
        for (int k = 23; k > 0; k--) {
            x.drop();
            Dues.due("whens", x.count(4), k - 1);
            Dues.due("size", x.count(5), k);
        }
        x.drop();
        Dues.due("no size", x.count(5), 0);
    }
}
