/**
 * The bounds that the document names, of Terms (1) and of promises 1 to 15: the least
 * and the greatest that is taken, the first on either side that is not, empty and
 * full, refused calls, which answer comes first, and that they change nothing.
 */
public final class TermBoundsTest {
    private static final int LEAST = Integer.MIN_VALUE;
    private static final int GREATEST = Integer.MAX_VALUE;
    private static final int[] OF_TWO = {3, 4, 5, 7};

    public static void main(String[] args) {
        casesByNumber();
        boxesInAllDirections();
        figuresOfBoxes();
        whatKindsSay();
        feesTogetherAtMost();
        capsAtTheirFee();
        zeroIsNotNothing();
        sizes();
        sizesAtMost();
        depths();
        promise1();
        promise2();
        promise3();
        promise4();
        promise5();
        promise6();
        promise7();
        promise8();
        promise9();
        promise11();
        promise12();
        promise13();
        promise14();
        promise15();
        Dues.end("TermBoundsTest");
    }

    // ---- Terms (1)

    private static void casesByNumber() {
        int one = 0;
        for (int age = 0; age <= 7; age++) {
            for (int day = 0; day <= 6; day++) {
                for (int hour = 0; hour <= 3; hour++) {
                    TariffBoxes x = new TariffBoxes();
                    x.flat(8);
                    x.when(0, 110000 * age + 1100 * day + 11 * hour);
                    String call = "the box of case " + one;
                    Dues.due(call, x.says(1, one), 8);
                    Dues.due(call + " alone", x.sum(1, 1), 1);
                    one++;
                }
            }
        }
        Dues.due("cases", one, 224);
    }

    /** A BOX of AGES 2 to 5, DAYS 1 to 4, HOURS 1 to 2, looked at from each side. */
    private static void boxesInAllDirections() {
        TariffBoxes x = new TariffBoxes();
        x.flat(50);
        x.when(0, 251412);
        x.cap(0, 251412, 20);
        int[][] in = {{2, 1, 1}, {5, 4, 2}, {2, 4, 1}, {5, 1, 2}, {3, 2, 1}};
        int[][] out = {{1, 1, 1}, {6, 4, 2}, {2, 0, 1}, {5, 5, 2}, {2, 1, 0}, {5, 4, 3}, {0, 0, 0}, {7, 6, 3}};
        for (int[] sides : in) {
            int one = Dues.caseOf(sides[0], sides[1], sides[2]);
            Dues.due("when within, case " + one, x.says(1, one), 50);
            Dues.due("cap within, case " + one, x.says(2, one), 20);
        }
        for (int[] sides : out) {
            int one = Dues.caseOf(sides[0], sides[1], sides[2]);
            Dues.due("when without, case " + one, x.says(1, one), -5);
            Dues.due("cap without, case " + one, x.says(2, one), 50);
        }
        Dues.due("as many as 4, 4 and 2", x.sum(1, 1), 32);
    }

    /** Each figure of a BOX from 0 to 9, by all three ways to tell a BOX. */
    private static void figuresOfBoxes() {
        int[] powers = {100000, 10000, 1000, 100, 10, 1};
        int[][] taken = {{0, 3}, {3, 7}, {0, 4}, {2, 6}, {0, 2}, {1, 3}};
        int middle = 332412;
        for (int place = 0; place < 6; place++) {
            for (int figure = 0; figure <= 9; figure++) {
                int box = middle - middle / powers[place] % 10 * powers[place] + figure * powers[place];
                boolean fine = figure >= taken[place][0] && figure <= taken[place][1];
                figureOfBox(box, place, fine);
            }
        }
    }

    private static void figureOfBox(int box, int place, boolean fine) {
        TariffBoxes x = States.flats(1);
        Dues.due("when of " + box, x.when(0, box), fine ? 1 : -2);
        x = States.flats(1);
        Dues.due("cap of " + box, x.cap(0, box, 5), fine ? 1 : -2);
        String told = String.format("%06d", box);
        // a first one above its last one is told at the last one, if it can be at all
        int most = place < 2 ? 7 : place < 4 ? 6 : 3;
        int figure = told.charAt(place) - '0';
        int at = 1 + (place % 2 == 0 && figure <= most ? place + 1 : place);
        x = States.flats(1);
        Dues.due("? of " + told, Dues.tell(x, "?" + told + "(#0)"), fine ? 1 : -100 - at);
        x = States.flats(1);
        Dues.due("^ of " + told, Dues.tell(x, "^" + told + ":5(#0)"), fine ? 1 : -100 - at);
    }

    private static void whatKindsSay() {
        TariffBoxes x = new TariffBoxes();
        x.flat(40);
        x.flat(30);
        x.empty();
        // by its row: what the one and the other one are, then what KINDS 3, 4, 5, 7 say
        int[][] rows = {{0, 1, 40, 70, 30, -5}, {1, 0, 30, 70, 30, -5}, {0, 2, 40, 40, 40, 40},
            {2, 0, 40, 40, 40, -5}, {2, 2, -5, -5, -5, -5}};
        for (int[] row : rows) {
            for (int k = 0; k < 4; k++) {
                int term = x.two(OF_TWO[k], row[0], row[1]);
                String call = "kind " + OF_TWO[k] + " of " + row[0] + " and " + row[1];
                Dues.due(call, x.says(term, 100), row[2 + k]);
                x.drop();
            }
        }
    }

    private static void feesTogetherAtMost() {
        int[][] rows = {{0, 0, 0}, {98, 0, 98}, {49, 49, 98}, {98, 1, 99}, {49, 50, 99}, {99, 0, 99}, {0, 99, 99},
            {50, 50, 99}, {99, 1, 99}, {99, 99, 99}};
        for (int[] row : rows) {
            TariffBoxes x = new TariffBoxes();
            x.flat(row[0]);
            x.flat(row[1]);
            x.two(4, 0, 1);
            x.two(5, 0, 1);
            Dues.due(row[0] + " and " + row[1] + " together", x.says(2, 0), row[2]);
            Dues.due("the lesser of " + row[0] + " and " + row[1], x.says(3, 0), Math.min(row[0], row[1]));
        }
    }

    private static void capsAtTheirFee() {
        int[][] rows = {{19, 20, 19}, {20, 20, 20}, {21, 20, 20}, {99, 0, 0}, {0, 0, 0}, {0, 99, 0}, {99, 99, 99},
            {99, 98, 98}};
        for (int[] row : rows) {
            TariffBoxes x = new TariffBoxes();
            x.flat(row[0]);
            x.cap(0, 70600, row[1]);
            String call = row[0] + " capped at " + row[1];
            Dues.due(call, x.says(1, 0), row[2]);
            Dues.due(call + ", without", x.says(1, 1), row[0]);
        }
        TariffBoxes x = new TariffBoxes();
        x.empty();
        x.cap(0, 70600, 0);
        Dues.due("nothing capped at 0", x.says(1, 0), -5);
        Dues.due("nothing, without", x.says(1, 1), -5);
    }

    private static void zeroIsNotNothing() {
        TariffBoxes x = new TariffBoxes();
        x.flat(0);
        x.flat(9);
        Dues.due("first of 0 and 9", x.says(x.two(3, 0, 1), 0), 0);
        Dues.due("9, if not 0", x.says(x.two(7, 1, 0), 0), -5);
        Dues.due("0, if not 9", x.says(x.two(7, 0, 1), 0), -5);
        Dues.due("lesser of 9 and 0", x.says(x.two(5, 1, 0), 0), 0);
        Dues.due("0 within a box", x.says(x.when(0, 0), 0), 0);
        x.empty();
        Dues.due("0 and nothing", x.says(x.two(4, 0, 7), 0), 0);
        Dues.due("nothing and 0", x.says(x.two(5, 7, 0), 0), 0);
        Dues.due("0 covers", x.sum(0, 1), 224);
        Dues.due("0 is no gap", x.gap(0, -1, 0), 0);
        Dues.due("0 is a part", x.part(0, -1, 0), 1);
        Dues.due("0 and nothing are unlike", x.diff(0, 7, -1, 0), 1);
    }

    private static void sizes() {
        TariffBoxes x = new TariffBoxes();
        x.flat(1);
        x.empty();
        x.when(0, 70603);
        x.cap(2, 70603, 1);
        int[] ones = {3, 3, 3, 3};
        int[] others = {2, 3, 0, 1};
        int[] due = {6, 7, 5, 5};
        Dues.due("size of a flat one", x.of(0, 4), 1);
        Dues.due("size of a void one", x.of(1, 4), 1);
        Dues.due("size of a when", x.of(2, 4), 2);
        Dues.due("size of a cap", x.of(3, 4), 3);
        for (int k = 0; k < 4; k++) {
            int term = x.two(OF_TWO[k], ones[k], others[k]);
            Dues.due("size of " + ones[k] + " and " + others[k], x.of(term, 4), due[k]);
            Dues.due("size taken", x.taken(term, OF_TWO[k]), due[k]);
        }
    }

    private static void sizesAtMost() {
        int[] due = {1, 3, 7, 15, 31, 39, 40};
        for (int term = 0; term < 7; term++) {
            Dues.due("size of " + term, States.sizes().of(term, 4), due[term]);
        }
        Sight.leaves("41 by when", States::sizes, x -> x.when(6, 70603), -4);
        Sight.leaves("41 by cap", States::sizes, x -> x.cap(6, 70603, 1), -4);
        for (int kind : OF_TWO) {
            Dues.due("31 + 7 + 1 by " + kind, States.sizes().two(kind, 2, 4), 7);
            Sight.leaves("39 + 1 + 1 by " + kind, States::sizes, x -> x.two(kind, 5, 0), -4);
            Sight.leaves("1 + 39 + 1 by " + kind, States::sizes, x -> x.two(kind, 0, 5), -4);
            Sight.leaves("31 + 31 + 1 by " + kind, States::sizes, x -> x.two(kind, 4, 4), -4);
        }
        TariffBoxes x = States.sizes();
        x.when(2, 70603);
        Dues.due("31 + 8 + 1", x.two(4, 4, 7), 8);
        Dues.due("its size", x.of(8, 4), 40);
        Dues.due("cap of 39", x.cap(5, 70603, 1), 9);
        Dues.due("its size", x.of(9, 4), 40);
        Dues.due("bad ahead of full by when", x.when(6, -1), -2);
        Dues.due("bad ahead of full by cap", x.cap(6, 70603, -1), -2);
        Dues.due("none ahead of full by two", x.two(6, 6, 6), -1);
    }

    private static void depths() {
        TariffBoxes x = new TariffBoxes();
        x.flat(1);
        x.empty();
        Dues.due("of a flat one", x.of(0, 5), 0);
        Dues.due("of a void one", x.of(1, 5), 0);
        x.when(1, 0);
        x.cap(2, 0, 1);
        Dues.due("of a when", x.of(2, 5), 1);
        Dues.due("of a cap", x.of(3, 5), 2);
        Dues.due("the one is deeper", x.of(x.two(3, 3, 0), 5), 3);
        Dues.due("the other one is deeper", x.of(x.two(4, 0, 3), 5), 3);
        Dues.due("both alike", x.of(x.two(5, 3, 3), 5), 3);
        Dues.due("of a not", x.of(x.two(7, 0, 0), 5), 1);
        TariffBoxes y = new TariffBoxes();
        y.flat(1);
        for (int k = 0; k < 23; k++) {
            y.when(k, 70603);
            Dues.due("depth in a row", y.of(k + 1, 5), k + 1);
        }
    }

    // ---- promises 1 to 9

    private static void promise1() {
        TariffBoxes x = new TariffBoxes();
        Dues.due("no terms", x.count(0), 0);
        Dues.due("no term to say anything", x.says(0, 0), -1);
        Dues.due("none to spell", x.spell(0), -1);
        Dues.due("none to be dropped", x.drop(), -3);
        Dues.due("nothing paid", x.count(1), 0);
        Dues.due("nothing fed", x.clear(), 0);
        Dues.due("no paper", x.paper(0), -1);
        Dues.due("no way", x.way(-1), 0);
        Dues.due("no image", x.undo(), -3);
        for (int rack = 0; rack < 4; rack++) {
            Dues.due("nothing held", x.put(rack, 0, 0), -11);
        }
        TariffBoxes y = new TariffBoxes();
        x.flat(1);
        Dues.due("another one's terms are its own", y.count(0), 0);
    }

    private static void promise2() {
        for (int fee = 0; fee <= 99; fee++) {
            TariffBoxes x = new TariffBoxes();
            Dues.due("flat(" + fee + ")", x.flat(fee), 0);
            Dues.due("its fee", x.of(0, 1), fee);
            Dues.due("what it says of the first case", x.says(0, 0), fee);
            Dues.due("what it says of the last case", x.says(0, 223), fee);
        }
        for (int fee : new int[] {-1, 100, LEAST, GREATEST}) {
            Sight.leaves("new: flat(" + fee + ")", States::bare, x -> x.flat(fee), -2);
            Sight.leaves("some: flat(" + fee + ")", States::some, x -> x.flat(fee), -2);
            Sight.leaves("full: flat(" + fee + ")", States::full, x -> x.flat(fee), -2);
        }
        Dues.due("the 24th", States.flats(23).flat(0), 23);
        Sight.leaves("the 25th", States::full, x -> x.flat(0), -4);
    }

    private static void promise3() {
        Dues.due("the first", States.bare().empty(), 0);
        Dues.due("the 24th", States.flats(23).empty(), 23);
        Sight.leaves("the 25th", States::full, TariffBoxes::empty, -4);
        TariffBoxes x = new TariffBoxes();
        x.empty();
        for (int one = 0; one < 224; one++) {
            Dues.due("says of " + one, x.says(0, one), -5);
        }
    }

    private static void promise4() {
        for (int one : new int[] {-1, 8, LEAST, GREATEST}) {
            Sight.leaves("when of " + one, States::some, x -> x.when(one, 70603), -1);
            Sight.leaves("when of " + one + ", bad", States::some, x -> x.when(one, -1), -1);
        }
        Sight.leaves("new: when of 0", States::bare, x -> x.when(0, 70603), -1);
        Dues.due("of the first", States.some().when(0, 70603), 8);
        Dues.due("of the last", States.some().when(7, 70603), 8);
        Dues.due("the least box", States.some().when(0, 0), 8);
        Dues.due("the greatest box", States.some().when(0, 776633), 8);
        for (int box : new int[] {-1, 776634, 1000000, 1070603, -70603, LEAST, GREATEST}) {
            Sight.leaves("when, box " + box, States::some, x -> x.when(0, box), -2);
            Sight.leaves("full: when, box " + box, States::full, x -> x.when(0, box), -2);
        }
        Dues.due("the 24th", States.flats(23).when(22, 70603), 23);
        Sight.leaves("the 25th", States::full, x -> x.when(0, 70603), -4);
        Sight.leaves("full: when of 24", States::full, x -> x.when(24, 70603), -1);
        Sight.leaves("full: when of 24, bad", States::full, x -> x.when(24, -1), -1);
    }

    private static void promise5() {
        for (int one : new int[] {-1, 8, LEAST, GREATEST}) {
            Sight.leaves("cap of " + one, States::some, x -> x.cap(one, 70603, 1), -1);
            Sight.leaves("cap of " + one + ", bad", States::some, x -> x.cap(one, -1, -1), -1);
        }
        Sight.leaves("new: cap of 0", States::bare, x -> x.cap(0, 70603, 1), -1);
        Dues.due("of the first", States.some().cap(0, 0, 0), 8);
        Dues.due("of the last", States.some().cap(7, 776633, 99), 8);
        for (int fee : new int[] {-1, 100, LEAST, GREATEST}) {
            Sight.leaves("cap, fee " + fee, States::some, x -> x.cap(0, 70603, fee), -2);
            Sight.leaves("full: cap, fee " + fee, States::full, x -> x.cap(0, 70603, fee), -2);
        }
        for (int box : new int[] {-1, 776634, 1000000, 1070603, LEAST, GREATEST}) {
            Sight.leaves("cap, box " + box, States::some, x -> x.cap(0, box, 1), -2);
        }
        Dues.due("the 24th", States.flats(23).cap(22, 70603, 1), 23);
        Sight.leaves("the 25th", States::full, x -> x.cap(0, 70603, 1), -4);
        Sight.leaves("full: cap of 24", States::full, x -> x.cap(24, 70603, 1), -1);
        Sight.leaves("full: cap, bad box", States::full, x -> x.cap(0, 80603, 1), -2);
    }

    private static void promise6() {
        for (int kind : new int[] {-1, 0, 1, 2, 6, 8, LEAST, GREATEST}) {
            Sight.leaves("two of kind " + kind, States::some, x -> x.two(kind, 0, 0), -1);
            Sight.leaves("full: two of kind " + kind, States::full, x -> x.two(kind, 0, 0), -1);
        }
        for (int kind : OF_TWO) {
            Dues.due("of the first", States.some().two(kind, 0, 0), 8);
            Dues.due("of the last", States.some().two(kind, 7, 7), 8);
            Dues.due("the 24th", States.flats(23).two(kind, 22, 22), 23);
            Sight.leaves("the 25th", States::full, x -> x.two(kind, 0, 0), -4);
            for (int none : new int[] {-1, 8, LEAST, GREATEST}) {
                Sight.leaves("two of " + none, States::some, x -> x.two(kind, none, 0), -1);
                Sight.leaves("two with " + none, States::some, x -> x.two(kind, 0, none), -1);
            }
            Sight.leaves("full: two of 24", States::full, x -> x.two(kind, 24, 0), -1);
            Sight.leaves("full: two with 24", States::full, x -> x.two(kind, 0, 24), -1);
            Sight.leaves("new: two", States::bare, x -> x.two(kind, 0, 0), -1);
        }
    }

    private static void promise7() {
        Sight.leaves("new: drop", States::bare, TariffBoxes::drop, -3);
        TariffBoxes x = States.flats(24);
        for (int many = 23; many >= 0; many--) {
            Dues.due("drop", x.drop(), many);
            Dues.due("is no more", x.of(many, 0), -1);
        }
        Dues.due("drop of none", x.drop(), -3);
        Dues.due("still none", x.count(0), 0);
        Dues.due("from 0 again", x.flat(5), 0);
        Sight.alike("a term come and dropped", States::some, y -> y.flat(3), y -> y.flat(4) + y.drop() + y.flat(3));
        dropsLeaveNothing();
        TariffBoxes z = States.some();
        z.drop();
        Dues.due("what was paid stays", z.count(1), 2);
        Dues.due("the paper stays", z.count(3), 15);
        Dues.due("the tape stays", z.count(2), 7);
        Dues.due("the image stays", z.undo(), 3);
    }

    /** A TERM with a number that another one had has nothing of that one. */
    private static void dropsLeaveNothing() {
        for (int was = 0; was < 6; was++) {
            for (int is = 0; is < 6; is++) {
                int before = was;
                int now = is;
                Sight.alike("after " + was + " dropped " + is, States::some,
                    x -> make(x, before) + x.drop() + make(x, now), x -> make(x, now));
            }
        }
    }

    private static int make(TariffBoxes x, int which) {
        switch (which) {
            case 0: return x.flat(31);
            case 1: return x.empty();
            case 2: return x.when(6, 120312);
            case 3: return x.cap(5, 230112, 6);
            case 4: return x.two(3, 6, 5);
            default: return x.two(7, 4, 4);
        }
    }

    private static void promise8() {
        for (int letter : new int[] {0, 128, -1, 256 + 49, LEAST, GREATEST}) {
            Sight.leaves("feed(" + letter + ")", States::some, x -> x.feed(letter), -2);
            Sight.leaves("full: feed(" + letter + ")", States::full, x -> x.feed(letter), -2);
        }
        for (int letter = 1; letter <= 127; letter++) {
            Dues.due("feed(" + letter + ")", States.bare().feed(letter), 1);
        }
        TariffBoxes x = new TariffBoxes();
        for (int k = 1; k <= 60; k++) {
            Dues.due("the byte", x.feed(States.SIXTY.charAt(k - 1)), k);
            Dues.due("how many", x.count(2), k);
        }
        Dues.due("the 61st", x.feed(49), -4);
        Dues.due("60 still", x.count(2), 60);
        Dues.due("all sixty are read", x.read(), 6);
        Sight.leaves("full: feed(49)", States::full, y -> y.feed(49), -4);
        Dues.due("behind a read", x.feed(49), 1);
    }

    private static void promise9() {
        TariffBoxes x = new TariffBoxes();
        Dues.due("of none", x.clear(), 0);
        x.feed(55);
        Dues.due("of one", x.clear(), 1);
        Dues.due("none then", x.count(2), 0);
        Dues.due("of none again", x.clear(), 0);
        Dues.feed(x, States.SIXTY);
        Dues.due("of sixty", x.clear(), 60);
        Dues.due("the first again", x.feed(55), 1);
        Dues.due("what was there is no more", x.read(), 0);
        TariffBoxes y = States.full();
        Dues.due("all of it", y.clear(), 60);
        Dues.due("no term comes", y.count(0), 24);
        Dues.due("a way stays", y.way(-1), 1);
        Dues.due("the paper stays", y.count(3), 10);
    }

    // ---- promises 11 to 15

    private static void promise11() {
        Dues.due("none yet", States.bare().way(-1), 0);
        Dues.due("none yet, the first", States.bare().way(0), -1);
        for (int k : new int[] {-2, 2, 7, LEAST, GREATEST}) {
            Sight.leaves("way(" + k + ")", States::some, x -> x.way(k), -1);
        }
        Sight.leaves("way(-1)", States::some, x -> x.way(-1), 2);
        Sight.leaves("way(0)", States::some, x -> x.way(0), 4);
        Sight.leaves("way(1)", States::some, x -> x.way(1), 0);
        TariffBoxes x = States.some();
        x.clear();
        Dues.tell(x, "12");
        Dues.due("a text without a fault leaves it", x.way(-1), 2);
        Dues.tell(x, "#8,");
        Dues.due("a fault within nothing", x.way(-1), 0);
        Dues.due("its first", x.way(0), -1);
        Dues.tell(x, "/(/(/(/(/(/(/(");
        Dues.due("the longest", x.way(-1), 7);
        Dues.due("its last", x.way(6), 0);
        Dues.due("behind its last", x.way(7), -1);
        Dues.due("the next text begins anew", Dues.tell(x, "?000000(1)"), 10);
        fullWayThenShort(x);
        TariffBoxes y = States.full();
        Dues.due("no room", y.read(), -4);
        Dues.due("no room has no way of its own", y.way(-1), 1);
        Dues.due("the empty text", y.read(), -100);
        Dues.due("has an empty way", y.way(-1), 0);
    }

    /** The longest WAY gives way to one that is shorter. */
    private static void fullWayThenShort(TariffBoxes x) {
        Dues.due("the longest stays", x.way(-1), 7);
        Dues.tell(x, "1,");
        Dues.due("gone", x.way(-1), 0);
        Dues.due("its first is gone", x.way(0), -1);
        Dues.tell(x, "/(1,?9");
        Dues.same("a shorter one", Dues.way(x), "4 0");
        Dues.due("behind its last", x.way(2), -1);
    }

    private static void promise12() {
        int[][] due = {{0, 7, -5, -5, 1, 0, -5}, {1, -5, -5, -5, 1, 0, -5}, {2, -5, 0, -5, 2, 1, 131302},
            {6, 5, 0, -5, 2, 1, 242413}, {3, -5, 2, 1, 4, 2, -5}, {7, -5, 0, 2, 4, 2, -5}, {4, -5, 2, 0, 4, 2, -5},
            {5, -5, 3, 2, 5, 2, -5}};
        for (int term = 0; term < 8; term++) {
            for (int what = 0; what < 7; what++) {
                int t = term;
                int w = what;
                Sight.leaves("of(" + t + ", " + w + ")", States::some, x -> x.of(t, w), due[t][w]);
            }
        }
        for (int none : new int[] {-1, 8, LEAST, GREATEST}) {
            Sight.leaves("of(" + none + ", 0)", States::some, x -> x.of(none, 0), -1);
        }
        for (int what : new int[] {-1, 7, LEAST, GREATEST}) {
            Sight.leaves("of(0, " + what + ")", States::some, x -> x.of(0, what), -1);
        }
        Dues.due("the 24th", States.full().of(23, 1), 23);
        Dues.due("the 25th", States.full().of(24, 1), -1);
        TariffBoxes x = States.flats(1);
        x.when(0, 0);
        x.when(0, 776633);
        Dues.due("the least box", x.of(1, 6), 0);
        Dues.due("the greatest box", x.of(2, 6), 776633);
    }

    private static void promise13() {
        int[] kinds = {0, 1, 2, 6, 3, 7, 4, 5};
        int[] sizes = {1, 1, 2, 2, 4, 4, 4, 5};
        for (int term = 0; term < 8; term++) {
            for (int kind = 0; kind < 8; kind++) {
                boolean under = kinds[term] == 6 && kind == 2 || kinds[term] == 7 && kind == 3;
                int due = kinds[term] == kind || under ? sizes[term] : -12;
                Dues.due("taken(" + term + ", " + kind + ")", States.some().taken(term, kind), due);
            }
            for (int kind : new int[] {-1, 8, LEAST, GREATEST}) {
                Dues.due("taken(" + term + ", " + kind + ")", States.some().taken(term, kind), -1);
            }
        }
        Sight.leaves("a when for a cap", States::some, x -> x.taken(2, 6), -12);
        Sight.leaves("a first for a not", States::some, x -> x.taken(4, 7), -12);
        Sight.leaves("of no kind", States::some, x -> x.taken(0, 8), -1);
        for (int none : new int[] {-1, 8, LEAST, GREATEST}) {
            Sight.leaves("taken(" + none + ", 0)", States::some, x -> x.taken(none, 0), -1);
        }
        Dues.due("of the size 40", States.full().taken(7, 2), 40);
    }

    private static void promise14() {
        for (int none : new int[] {-1, 8, LEAST, GREATEST}) {
            Sight.leaves("spell(" + none + ")", States::some, x -> x.spell(none), -1);
        }
        Sight.leaves("new: spell(0)", States::bare, x -> x.spell(0), -1);
        Sight.leaves("full: spell(24)", States::full, x -> x.spell(24), -1);
        Sight.alike("spell(6)", States::some, x -> x.spell(6) + x.spell(4), x -> 0);
        String[] due = {"7", "-", "?131302(7)", "^242413:5(7)", "/(?131302(7),-)", "!(7,?131302(7))",
            "+(?131302(7),7)", "<(^242413:5(7),?131302(7))"};
        for (int term = 0; term < 8; term++) {
            TariffBoxes x = States.some();
            Dues.same("spell(" + term + ")", Dues.spelled(x, term), due[term]);
            Dues.due("how many", x.count(3), due[term].length());
            Dues.due("the first byte", x.paper(0), due[term].charAt(0));
        }
        for (int fee = 0; fee <= 99; fee++) {
            TariffBoxes x = States.flats(1);
            x.flat(fee);
            x.cap(0, 0, fee);
            Dues.same("without a 0 ahead", Dues.spelled(x, 1), "" + fee);
            Dues.same("of a cap too", Dues.spelled(x, 2), "^000000:" + fee + "(0)");
        }
    }

    /** 37 CAPS of FEES of two figures, one SUM: no TERM of SIZE 40 has more to spell. */
    private static void promise15() {
        TariffBoxes x = new TariffBoxes();
        x.flat(99);
        for (int k = 0; k < 18; k++) {
            x.cap(k, 70603, 98);
        }
        x.two(4, 18, 18);
        x.cap(19, 70603, 98);
        Dues.due("its size", x.of(20, 4), 40);
        Dues.due("spelled", x.spell(20), 452);
        Dues.due("the first byte", x.paper(0), '^');
        Dues.due("the last byte", x.paper(451), ')');
        Dues.due("behind it", x.paper(452), -1);
        Dues.due("the last fee", x.paper(431), '9');
        Dues.due("the last but one", x.paper(432), ')');
        for (int i : new int[] {-1, 15, LEAST, GREATEST}) {
            Sight.leaves("paper(" + i + ")", States::some, y -> y.paper(i), -1);
        }
        Sight.leaves("paper(0)", States::some, y -> y.paper(0), '/');
        Sight.leaves("paper(14)", States::some, y -> y.paper(14), ')');
        Dues.due("of nothing", States.bare().paper(0), -1);
    }
}
