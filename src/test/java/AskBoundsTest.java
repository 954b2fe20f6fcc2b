/**
 * The bounds that the document names, of Terms (2) and of promises 16 to 28: the least
 * and the greatest that is taken, the first on either side that is not, empty and
 * full, which answer comes first, and that what is asked or refused changes nothing.
 */
public final class AskBoundsTest {
    private static final int LEAST = Integer.MIN_VALUE;
    private static final int GREATEST = Integer.MAX_VALUE;
    /** No TERMS of States.some(), which has 8. */
    private static final int[] NO_TERMS = {-1, 8, LEAST, GREATEST};
    private static final int[] NO_CASES = {-1, 224, LEAST, GREATEST};
    private static final int[] NO_FEES = {-1, 100, LEAST, GREATEST};
    /** What of States.some() is no FLAT TERM. */
    private static final int[] NO_FLATS = {-1, 1, 2, 3, 4, 5, 6, 7, 8, LEAST, GREATEST};

    public static void main(String[] args) {
        boxesDoNotGoAround();
        boxesGoAsFarAsTheLast();
        promise16();
        promise17();
        promise18();
        promise19();
        partsOfEachCase();
        promise20();
        gapsOfEachCase();
        promise21();
        diffsOfEachCase();
        promise22();
        promise23();
        rulesAtMost();
        idleByOneCase();
        promise24();
        overlapsByOne();
        promise25();
        promise26();
        promise27();
        fitsAtTheEdges();
        fitsOfEight();
        promise28();
        tillsBySeeds();
        Dues.end("AskBoundsTest");
    }

    // ---- Terms (2)

    private static String parts(TariffBoxes x, int term) {
        StringBuilder text = new StringBuilder();
        int many = x.part(term, -1, 0);
        for (int i = 0; i < many; i++) {
            text.append(i == 0 ? "" : " ");
            for (int what = 0; what <= 6; what++) {
                text.append(what == 6 ? ":" : "").append(x.part(term, i, what));
            }
        }
        return text.toString();
    }

    private static String partsOf(String text) {
        TariffBoxes x = new TariffBoxes();
        return parts(x, Dues.tell(x, text));
    }

    /** The last HOUR of a DAY and the first of the next one are no neighbours, nor are DAYS of two AGES. */
    private static void boxesDoNotGoAround() {
        Dues.same("hours of two days", partsOf("/(?000033(5),?001100(5))"), "000033:5 001100:5");
        Dues.same("days of two ages", partsOf("/(?006603(5),?110003(5))"), "006603:5 110003:5");
        Dues.same("cases 27 and 28", partsOf("/(?006633(5),?110000(5))"), "006633:5 110000:5");
        Dues.same("the last case and the first", partsOf("/(?776633(5),?000000(5))"), "000000:5 776633:5");
    }

    private static void boxesGoAsFarAsTheLast() {
        Dues.same("to hour 3", partsOf("?000023(5)"), "000023:5");
        Dues.same("to hour 2", partsOf("?000022(5)"), "000022:5");
        Dues.same("to day 6", partsOf("?005600(5)"), "005600:5");
        Dues.same("to day 5", partsOf("?005500(5)"), "005500:5");
        Dues.same("to age 7", partsOf("?670000(5)"), "670000:5");
        Dues.same("to age 6", partsOf("?660000(5)"), "660000:5");
        Dues.same("to one with another mark", partsOf("/(?000022(6),?000003(5))"), "000001:5 000022:6 000033:5");
        Dues.same("not to a day that lacks an hour", partsOf("/(?001102(5),?000003(5))"), "000003:5 001102:5");
        Dues.same("not to an age that lacks a day", partsOf("/(?000103(5),?110003(5))"), "000103:5 110003:5");
        Dues.same("not to an age that lacks an hour of a day", partsOf("/(?000103(5),/(?110003(5),?111102(5)))"),
            "000103:5 110003:5 111102:5");
        Dues.same("not to hours in a box", partsOf("/(?000600(5),?003303(5))"), "000600:5 003313:5");
    }

    // ---- promises 16 to 18

    private static void promise16() {
        for (int none : NO_TERMS) {
            Sight.leaves("says(" + none + ", 0)", States::some, x -> x.says(none, 0), -1);
        }
        for (int none : NO_CASES) {
            Sight.leaves("says(0, " + none + ")", States::some, x -> x.says(0, none), -1);
        }
        Sight.leaves("says(0, 0)", States::some, x -> x.says(0, 0), 7);
        Sight.leaves("says(0, 223)", States::some, x -> x.says(0, 223), 7);
        Sight.leaves("says(1, 223)", States::some, x -> x.says(1, 223), -5);
        Sight.leaves("new: says(0, 0)", States::bare, x -> x.says(0, 0), -1);
        Sight.leaves("full: says(23, 0)", States::full, x -> x.says(23, 0), 23);
        Sight.leaves("full: says(24, 0)", States::full, x -> x.says(24, 0), -1);
        Sight.leaves("full: says(7, 2)", States::full, x -> x.says(7, 2), 7);
        Sight.leaves("full: says(7, 3)", States::full, x -> x.says(7, 3), -5);
    }

    private static void promise17() {
        for (int none : NO_TERMS) {
            Sight.leaves("sum(" + none + ", 0)", States::some, x -> x.sum(none, 0), -1);
        }
        for (int what : new int[] {-1, 2, LEAST, GREATEST}) {
            Sight.leaves("sum(0, " + what + ")", States::some, x -> x.sum(0, what), -1);
        }
        Sight.leaves("earns", States::some, x -> x.sum(0, 0), 1568);
        Sight.leaves("covers", States::some, x -> x.sum(0, 1), 224);
        TariffBoxes x = States.flats(1);
        x.flat(99);
        x.empty();
        x.when(1, 0);
        x.when(1, 776633);
        x.two(7, 1, 3);
        x.two(7, 1, 4);
        int[][] due = {{0, 224}, {22176, 224}, {0, 0}, {99, 1}, {99, 1}, {22077, 223}, {22077, 223}};
        for (int term = 0; term < due.length; term++) {
            Dues.due("sum(" + term + ", 0)", x.sum(term, 0), due[term][0]);
            Dues.due("sum(" + term + ", 1)", x.sum(term, 1), due[term][1]);
        }
    }

    private static void promise18() {
        for (int none : NO_TERMS) {
            Sight.leaves("odds(" + none + ", 0)", States::some, x -> x.odds(none, 0), TariffBoxes.NO);
            Sight.leaves("odds(" + none + ", 1)", States::some, x -> x.odds(none, 1), TariffBoxes.NO);
        }
        for (int part : new int[] {-1, 2, LEAST, GREATEST}) {
            Sight.leaves("odds(0, " + part + ")", States::some, x -> x.odds(0, part), TariffBoxes.NO);
        }
        Sight.leaves("odds(0, 0)", States::some, x -> x.odds(0, 0), 1);
        Sight.leaves("odds(0, 1)", States::some, x -> x.odds(0, 1), 1);
        Sight.leaves("odds(1, 0)", States::some, x -> x.odds(1, 0), 0);
        Sight.leaves("odds(1, 1)", States::some, x -> x.odds(1, 1), 1);
        for (int ages = 1; ages <= 8; ages++) {
            for (int days = 1; days <= 7; days++) {
                for (int hours = 1; hours <= 4; hours++) {
                    oddsOf(ages, days, hours);
                }
            }
        }
    }

    /** Of a BOX of so many, and of all that is not in it. */
    private static void oddsOf(int ages, int days, int hours) {
        TariffBoxes x = States.flats(1);
        x.when(0, 10000 * (ages - 1) + 100 * (days - 1) + hours - 1);
        x.two(7, 0, 1);
        int covers = ages * days * hours;
        for (int term = 1; term <= 2; term++) {
            int many = term == 1 ? covers : 224 - covers;
            int common = 224;
            while (many % common != 0 || 224 % common != 0) {
                common--;
            }
            Dues.due("above the line of " + many, x.odds(term, 0), many / common);
            Dues.due("below the line of " + many, x.odds(term, 1), 224 / common);
        }
    }

    // ---- promises 19 to 21

    private static void promise19() {
        for (int none : NO_TERMS) {
            Sight.leaves("part(" + none + ", -1, 0)", States::some, x -> x.part(none, -1, 0), -1);
            Sight.leaves("part(" + none + ", 0, 0)", States::some, x -> x.part(none, 0, 0), -1);
        }
        for (int i : new int[] {-2, 1, LEAST, GREATEST}) {
            for (int what : new int[] {0, 6}) {
                Sight.leaves("part(0, " + i + ", " + what + ")", States::some, x -> x.part(0, i, what), -1);
            }
        }
        int[] due = {1, 3, 1, 3, 0, 2, 7};
        for (int what = 0; what < 7; what++) {
            int w = what;
            Sight.leaves("part(2, 0, " + w + ")", States::some, x -> x.part(2, 0, w), due[w]);
            Sight.leaves("part(1, 0, " + w + ")", States::some, x -> x.part(1, 0, w), -1);
            Sight.leaves("part(2, -1, " + w + ")", States::some, x -> x.part(2, -1, w), 1);
        }
        for (int what : new int[] {-1, 7, LEAST, GREATEST}) {
            Sight.leaves("part(2, 0, " + what + ")", States::some, x -> x.part(2, 0, what), -1);
            Sight.leaves("part(2, -1, " + what + ")", States::some, x -> x.part(2, -1, what), 1);
            Sight.leaves("part(1, -1, " + what + ")", States::some, x -> x.part(1, -1, what), 0);
        }
    }

    private static void partsOfEachCase() {
        TariffBoxes x = States.odd(4);
        int term = x.count(0) - 1;
        Dues.due("parts", x.part(term, -1, 0), 224);
        for (int one = 0; one < 224; one += 3) {
            int[] sides = {one / 28, one / 4 % 7, one % 4};
            for (int what = 0; what < 6; what += 2) {
                Dues.due("first of part " + one, x.part(term, one, what), sides[what / 2]);
                Dues.due("last of part " + one, x.part(term, one, what + 1), sides[what / 2]);
            }
        }
        x = States.odd(4);
        for (int one = 0; one < 224; one++) {
            int fee = one / 28 % 2 + 2 * (one / 4 % 7 % 2) + 4 * (one % 2);
            Dues.due("fee of part " + one, x.part(term, one, 6), fee);
        }
        Dues.due("part 224", x.part(term, 224, 6), -1);
        Dues.due("part 224", x.part(term, 224, 0), -1);
    }

    private static void promise20() {
        for (int none : NO_TERMS) {
            Sight.leaves("gap(" + none + ", -1, 0)", States::some, x -> x.gap(none, -1, 0), -1);
            Sight.leaves("gap(" + none + ", 0, 0)", States::some, x -> x.gap(none, 0, 0), -1);
        }
        for (int i : new int[] {-2, 1, LEAST, GREATEST}) {
            Sight.leaves("gap(1, " + i + ", 0)", States::some, x -> x.gap(1, i, 0), -1);
        }
        int[] due = {0, 7, 0, 6, 0, 3};
        for (int what = 0; what < 6; what++) {
            int w = what;
            Sight.leaves("gap(1, 0, " + w + ")", States::some, x -> x.gap(1, 0, w), due[w]);
            Sight.leaves("gap(0, 0, " + w + ")", States::some, x -> x.gap(0, 0, w), -1);
        }
        for (int what : new int[] {-1, 6, 7, LEAST, GREATEST}) {
            Sight.leaves("gap(1, 0, " + what + ")", States::some, x -> x.gap(1, 0, what), -1);
            Sight.leaves("gap(1, -1, " + what + ")", States::some, x -> x.gap(1, -1, what), 1);
            Sight.leaves("gap(0, -1, " + what + ")", States::some, x -> x.gap(0, -1, what), 0);
        }
    }

    /** What is said of no even AGE, DAY and HOUR leaves 4 times 4 times 2 GAPS. */
    private static void gapsOfEachCase() {
        TariffBoxes x = States.odd(3);
        int term = x.count(0) - 1;
        Dues.due("gaps", x.gap(term, -1, 0), 32);
        int i = 0;
        for (int one = 0; one < 224; one++) {
            int[] sides = {one / 28, one / 4 % 7, one % 4};
            if (sides[0] % 2 + sides[1] % 2 + sides[2] % 2 > 0) {
                continue;
            }
            for (int what = 0; what < 6; what++) {
                Dues.due("gap " + i, x.gap(term, i, what), sides[what / 2]);
            }
            i++;
        }
        Dues.due("gap 31 is the last", x.gap(term, 32, 0), -1);
        TariffBoxes y = States.flats(1);
        y.when(0, 0);
        Dues.due("all but the first case", y.gap(1, -1, 0), 3);
        y.when(0, 776633);
        Dues.due("all but the last case", y.gap(2, -1, 0), 3);
        Dues.due("up to it", y.gap(2, 2, 5), 2);
    }

    private static void promise21() {
        for (int none : NO_TERMS) {
            Sight.leaves("diff of " + none, States::some, x -> x.diff(none, 0, -1, 0), -1);
            Sight.leaves("diff with " + none, States::some, x -> x.diff(0, none, -1, 0), -1);
            Sight.leaves("diff 0 with " + none, States::some, x -> x.diff(1, none, 0, 0), -1);
        }
        for (int i : new int[] {-2, 1, LEAST, GREATEST}) {
            for (int what : new int[] {0, 6, 7}) {
                Sight.leaves("diff(0, 1, " + i + ", " + what + ")", States::some, x -> x.diff(0, 1, i, what), -1);
            }
        }
        int[] due = {0, 7, 0, 6, 0, 3, 7, -5};
        for (int what = 0; what < 8; what++) {
            int w = what;
            Sight.leaves("diff(0, 1, 0, " + w + ")", States::some, x -> x.diff(0, 1, 0, w), due[w]);
            int turned = w < 6 ? due[w] : due[13 - w];
            Sight.leaves("diff(1, 0, 0, " + w + ")", States::some, x -> x.diff(1, 0, 0, w), turned);
            Sight.leaves("diff(1, 1, 0, " + w + ")", States::some, x -> x.diff(1, 1, 0, w), -1);
        }
        for (int what : new int[] {-1, 8, LEAST, GREATEST}) {
            Sight.leaves("diff(0, 1, 0, " + what + ")", States::some, x -> x.diff(0, 1, 0, what), -1);
            Sight.leaves("diff(0, 1, -1, " + what + ")", States::some, x -> x.diff(0, 1, -1, what), 1);
            Sight.leaves("diff(0, 0, -1, " + what + ")", States::some, x -> x.diff(0, 0, -1, what), 0);
        }
    }

    private static void diffsOfEachCase() {
        TariffBoxes x = States.odd(4);
        int term = x.count(0) - 1;
        int none = x.empty();
        Dues.due("diffs", x.diff(term, none, -1, 0), 224);
        for (int one = 0; one < 224; one++) {
            int fee = one / 28 % 2 + 2 * (one / 4 % 7 % 2) + 4 * (one % 2);
            Dues.due("diff " + one, x.diff(term, none, one, 6), fee);
            Dues.due("diff " + one + ", turned", x.diff(none, term, one, 7), fee);
        }
        Dues.due("diff 224", x.diff(term, none, 224, 6), -1);
        TariffBoxes y = new TariffBoxes();
        y.flat(0);
        y.flat(99);
        y.empty();
        int[] says = {0, 99, -5};
        for (int one = 0; one < 3; one++) {
            for (int other = 0; other < 3; other++) {
                String call = "diff of " + says[one] + " and " + says[other];
                Dues.due(call, y.diff(one, other, -1, 0), one == other ? 0 : 1);
                Dues.due(call, y.diff(one, other, 0, 6), one == other ? -1 : says[one]);
                Dues.due(call, y.diff(one, other, 0, 7), one == other ? -1 : says[other]);
            }
        }
    }

    // ---- promises 22 to 24

    private static void promise22() {
        for (int none : NO_TERMS) {
            Sight.leaves("rule(" + none + ", -1)", States::some, x -> x.rule(none, -1), -1);
            Sight.leaves("rule(" + none + ", 0)", States::some, x -> x.rule(none, 0), -1);
        }
        int[] many = {0, 0, 1, 0, 1, 1, 1, 1};
        for (int term = 0; term < 8; term++) {
            int t = term;
            Sight.leaves("rule(" + t + ", -1)", States::some, x -> x.rule(t, -1), many[t]);
            Sight.leaves("rule(" + t + ", 0)", States::some, x -> x.rule(t, 0), many[t] == 0 ? -1 : 2);
            Sight.leaves("rule(" + t + ", 1)", States::some, x -> x.rule(t, 1), -1);
        }
        for (int i : new int[] {-2, LEAST, GREATEST}) {
            Sight.leaves("rule(2, " + i + ")", States::some, x -> x.rule(2, i), -1);
        }
    }

    private static void promise23() {
        for (int none : NO_TERMS) {
            Sight.leaves("idle(" + none + ", 0)", States::some, x -> x.idle(none, 0), -1);
        }
        int[] due = {-1, -1, 0, -1, 0, 0, 0, 1};
        for (int term = 0; term < 8; term++) {
            int t = term;
            Sight.leaves("idle(" + t + ", 0)", States::some, x -> x.idle(t, 0), due[t]);
        }
        for (int i : new int[] {-2, -1, 1, LEAST, GREATEST}) {
            Sight.leaves("idle(2, " + i + ")", States::some, x -> x.idle(2, i), -1);
        }
    }

    /** 37 RULES: no TERM of SIZE 40 that is made of less than 24 has more. */
    private static void rulesAtMost() {
        TariffBoxes x = States.flats(1);
        for (int k = 0; k < 18; k++) {
            x.when(k, 70603);
        }
        x.two(3, 18, 18);
        x.when(19, 70603);
        Dues.due("its size", x.of(20, 4), 40);
        Dues.due("how many", x.rule(20, -1), 37);
        Dues.due("itself", x.rule(20, 0), 20);
        Dues.due("itself is wanted", x.idle(20, 0), 0);
        for (int i = 1; i <= 18; i++) {
            Dues.due("in the one", x.rule(20, i), 19 - i);
            Dues.due("in the one, idle", x.idle(20, i), 1);
            Dues.due("in the other one", x.rule(20, 18 + i), 19 - i);
            Dues.due("in the other one, idle", x.idle(20, 18 + i), 1);
        }
        Dues.due("rule 37", x.rule(20, 37), -1);
        Dues.due("idle 37", x.idle(20, 37), -1);
    }

    private static void idleByOneCase() {
        int[] boxes = {0, 776633, 330011, 6633};
        for (int box : boxes) {
            TariffBoxes x = States.flats(1);
            x.when(0, box);
            x.two(3, 1, 0);
            Dues.due("the same without it", x.idle(2, 0), 1);
            x.flat(1);
            x.two(3, 1, 3);
            Dues.due("one case alone is other without it", x.idle(4, 0), 0);
            x.two(7, 0, 1);
            Dues.due("one case alone is said without it", x.idle(5, 0), 0);
            Dues.due("one case alone is not said without it", x.idle(1, 0), 0);
        }
    }

    private static void promise24() {
        for (int none : NO_TERMS) {
            Sight.leaves("overlap(" + none + ", 2)", States::some, x -> x.overlap(none, 2), -1);
            Sight.leaves("overlap(2, " + none + ")", States::some, x -> x.overlap(2, none), -1);
            Sight.leaves("none ahead of not", States::some, x -> x.overlap(0, none), -1);
            Sight.leaves("none ahead of not", States::some, x -> x.overlap(none, 0), -1);
        }
        for (int term : new int[] {0, 1, 4, 5, 6, 7}) {
            Sight.leaves("overlap(" + term + ", 2)", States::some, x -> x.overlap(term, 2), -5);
            Sight.leaves("overlap(2, " + term + ")", States::some, x -> x.overlap(2, term), -5);
            Sight.leaves("overlap of both", States::some, x -> x.overlap(term, term), -5);
        }
        Sight.leaves("overlap(2, 3)", States::some, x -> x.overlap(2, 3), 8);
        Sight.leaves("overlap(3, 2)", States::some, x -> x.overlap(3, 2), 8);
        Sight.leaves("overlap(2, 2)", States::some, x -> x.overlap(2, 2), 27);
    }

    /** BOXES side by side have nothing together, those that share a side's last one have. */
    private static void overlapsByOne() {
        int[][] rows = {{70603, 70603, 224}, {0, 776633, 0}, {0, 0, 1}, {776633, 776633, 1}, {70603, 0, 1},
            {30603, 470603, 0}, {40603, 470603, 28}, {70303, 74603, 0}, {70403, 74603, 32}, {70601, 70623, 0},
            {70602, 70623, 56}, {251412, 343320, -1}, {251412, 343311, 2}, {1, 23, 0}, {2, 23, 1}};
        for (int[] row : rows) {
            TariffBoxes x = States.flats(1);
            x.when(0, row[0]);
            boolean fine = x.cap(0, row[1], 0) == 2;
            Dues.due("overlap of " + row[0] + " and " + row[1], x.overlap(1, 2), fine ? row[2] : -1);
            Dues.due("overlap of " + row[1] + " and " + row[0], x.overlap(2, 1), fine ? row[2] : -1);
        }
    }

    // ---- promises 25 to 28

    private static void promise25() {
        for (int flat : NO_FLATS) {
            Sight.leaves("would of " + flat, States::some, x -> x.would(flat, 5, 0, 0), -1);
            Sight.leaves("would of " + flat + ", bad", States::some, x -> x.would(flat, 100, 0, 0), -1);
        }
        for (int none : NO_TERMS) {
            Sight.leaves("would, term " + none, States::some, x -> x.would(0, 5, none, 0), -1);
            Sight.leaves("would, term " + none + ", bad", States::some, x -> x.would(0, -1, none, 0), -1);
        }
        for (int none : NO_CASES) {
            Sight.leaves("would, case " + none, States::some, x -> x.would(0, 5, 0, none), -1);
            Sight.leaves("would, case " + none + ", bad", States::some, x -> x.would(0, 100, 0, none), -1);
        }
        for (int v : NO_FEES) {
            Sight.leaves("would, v " + v, States::some, x -> x.would(0, v, 0, 0), -2);
        }
        for (int v = 0; v <= 99; v++) {
            int fee = v;
            int twice = Math.min(99, 2 * v);
            TariffBoxes x = States.some();
            Dues.due("would of itself", x.would(0, v, 0, 0), fee);
            Dues.due("would of a sum, within", x.would(0, v, 6, 32), twice);
            Dues.due("would of a sum, without", x.would(0, v, 6, 223), fee);
            Dues.due("would of a cap, without", x.would(0, v, 3, 0), fee);
            Dues.due("would of a cap, within", x.would(0, v, 3, Dues.caseOf(2, 2, 1)), Math.min(5, fee));
            Dues.due("would of nothing", x.would(0, v, 1, 0), -5);
        }
        Sight.leaves("would(0, 0, 0, 0)", States::some, x -> x.would(0, 0, 0, 0), 0);
        Sight.leaves("would(0, 99, 0, 223)", States::some, x -> x.would(0, 99, 0, 223), 99);
        Sight.leaves("full: would(23, 99, 23, 0)", States::full, x -> x.would(23, 99, 23, 0), 99);
        Sight.leaves("full: not in it", States::full, x -> x.would(23, 99, 7, 0), 7);
        Sight.leaves("full: says nothing", States::full, x -> x.would(0, 99, 7, 223), -5);
    }

    private static void promise26() {
        for (int none : new int[] {-2, 224, LEAST, GREATEST}) {
            Sight.leaves("paid of " + none, States::some, x -> x.paid(none, 5), -1);
            Sight.leaves("paid of " + none + ", bad", States::some, x -> x.paid(none, 100), -1);
            Sight.leaves("full: paid of " + none, States::full, x -> x.paid(none, 5), -1);
        }
        for (int fee : new int[] {-2, 100, LEAST, GREATEST}) {
            Sight.leaves("paid of fee " + fee, States::some, x -> x.paid(0, fee), -2);
            Sight.leaves("full: paid of fee " + fee, States::full, x -> x.paid(223, fee), -2);
        }
        Dues.due("of the first case", States.some().paid(0, 0), 3);
        Dues.due("of the last case", States.some().paid(223, 99), 3);
        Dues.due("of nothing", States.some().paid(223, -1), 3);
        Sight.leaves("the ninth", States::full, x -> x.paid(0, 7), -4);
        Sight.leaves("the ninth, of nothing", States::full, x -> x.paid(223, -1), -4);
        for (int fee : new int[] {-1, 0, 100, LEAST, GREATEST}) {
            TariffBoxes x = States.full();
            Dues.due("none then", x.paid(-1, fee), 0);
            Dues.due("how many", x.count(1), 0);
            Dues.due("all fits", x.fits(0, 0, 0), 100);
            for (int k = 1; k <= 8; k++) {
                Dues.due("paid " + k, x.paid(0, 7), k);
                Dues.due("how many", x.count(1), k);
            }
            Dues.due("the ninth again", x.paid(0, 7), -4);
        }
        Sight.leaves("none of none", States::bare, x -> x.paid(-1, 0), 0);
        TariffBoxes x = States.bare();
        Dues.due("without terms", x.paid(0, 0), 1);
    }

    private static void promise27() {
        for (int flat : NO_FLATS) {
            Sight.leaves("fits of " + flat, States::some, x -> x.fits(flat, 0, 0), -1);
        }
        for (int none : NO_TERMS) {
            Sight.leaves("fits, term " + none, States::some, x -> x.fits(0, none, 0), -1);
        }
        for (int what : new int[] {-1, 2, LEAST, GREATEST}) {
            Sight.leaves("fits, what " + what, States::some, x -> x.fits(0, 0, what), -1);
        }
        Sight.leaves("none fits", States::some, x -> x.fits(0, 0, 0), 0);
        Sight.leaves("none fits, least", States::some, x -> x.fits(0, 0, 1), -5);
        Sight.leaves("one fits", States::some, x -> x.fits(0, 2, 0), 1);
        Sight.leaves("one fits, least", States::some, x -> x.fits(0, 2, 1), 7);
        Sight.leaves("all fit", States::full, x -> x.fits(23, 0, 0), 100);
        Sight.leaves("all fit, least", States::full, x -> x.fits(23, 0, 1), 0);
        Dues.due("nothing paid: all fit", States.flats(1).fits(0, 0, 0), 100);
        Dues.due("nothing paid: the least", States.flats(1).fits(0, 0, 1), 0);
    }

    private static void fitsAtTheEdges() {
        for (int fee = 0; fee <= 99; fee++) {
            TariffBoxes x = States.flats(1);
            x.flat(98);
            x.two(4, 0, 1);
            x.cap(0, 70603, 2);
            x.paid(223, fee);
            Dues.due("just one", x.fits(0, 0, 0), 1);
            Dues.due("the very fee", x.fits(0, 0, 1), fee);
            Dues.due("98 and more", x.fits(0, 2, 0), fee == 98 ? 1 : fee == 99 ? 99 : 0);
            Dues.due("98 and more, least", x.fits(0, 2, 1), fee == 98 ? 0 : fee == 99 ? 1 : -5);
            Dues.due("2 at most", x.fits(0, 3, 0), fee < 2 ? 1 : fee == 2 ? 98 : 0);
            Dues.due("2 at most, least", x.fits(0, 3, 1), fee <= 2 ? fee : -5);
        }
    }

    /** Of eight each one counts, also the first and the last; one that says nothing, too. */
    private static void fitsOfEight() {
        for (int wrong = 0; wrong < 8; wrong++) {
            for (int fee : new int[] {-1, 4, 6}) {
                TariffBoxes x = States.flats(1);
                for (int k = 0; k < 8; k++) {
                    x.paid(k, k == wrong ? fee : 5);
                }
                Dues.due("seven fit, one does not", x.fits(0, 0, 0), 0);
                Dues.due("seven fit, one does not: least", x.fits(0, 0, 1), -5);
            }
        }
        TariffBoxes x = States.flats(1);
        x.when(0, 70600);
        for (int k = 0; k < 8; k++) {
            x.paid(k, k % 4 == 0 ? 5 : -1);
        }
        Dues.due("nothing is said where nothing was paid", x.fits(0, 1, 1), 5);
        Dues.due("something is said where nothing was paid", x.fits(0, 0, 0), 0);
    }

    private static void promise28() {
        for (int none : NO_TERMS) {
            Sight.leaves("till of " + none, States::some, x -> x.till(none, 1, 1, 0), -1);
            Sight.leaves("till of " + none + ", bad", States::some, x -> x.till(none, 1, 41, 0), -1);
        }
        for (int what : new int[] {-1, 3, LEAST, GREATEST}) {
            Sight.leaves("till, what " + what, States::some, x -> x.till(0, 1, 1, what), -1);
            Sight.leaves("till, what " + what + ", bad", States::some, x -> x.till(0, 1, 0, what), -1);
        }
        for (int n : new int[] {-1, 0, 41, LEAST, GREATEST}) {
            for (int what = 0; what < 3; what++) {
                int w = what;
                Sight.leaves("till, n " + n, States::some, x -> x.till(0, 1, n, w), -2);
            }
        }
        int[][] due = {{7, 0, 7}, {0, 1, -5}};
        for (int term = 0; term < 2; term++) {
            for (int what = 0; what < 3; what++) {
                int t = term;
                int w = what;
                Sight.leaves("till of one case", States::some, x -> x.till(t, 1, 1, w), due[t][w]);
                int forty = w == 2 ? due[t][w] : 40 * due[t][w];
                Sight.leaves("till of forty cases", States::some, x -> x.till(t, 1, 40, w), forty);
            }
        }
        TariffBoxes x = States.flats(1);
        x.flat(99);
        Dues.due("all of 0", x.till(0, 3, 40, 0), 0);
        Dues.due("the greatest of 0", x.till(0, 3, 40, 2), 0);
        Dues.due("all of 99", x.till(1, 3, 40, 0), 3960);
        Dues.due("the greatest of 99", x.till(1, 3, 40, 2), 99);
    }

    /** The draws by whole numbers that do not go around at an int's end. */
    private static void tillsBySeeds() {
        for (int seed : new int[] {LEAST, LEAST + 1, -1, 0, 1, 2, 255, 256, 1 << 30, GREATEST - 1, GREATEST}) {
            for (int n : new int[] {1, 2, 3, 39, 40}) {
                long z = seed & 0xffffffffL;
                int[] sums = {0, 0, -5};
                int[] firsts = {0, 0, -5};
                for (int k = 0; k < n; k++) {
                    z = (z * 1664525L + 1013904223L) % 4294967296L;
                    int one = (int) (z % 2147483648L / 256 % 224);
                    int age = one / 28 % 2;
                    int day = one / 4 % 7 % 2;
                    int hour = one % 2;
                    tally(sums, age + 2 * day + 4 * hour);
                    tally(firsts, age == 1 ? 1 : day == 1 ? 2 : hour == 1 ? 4 : -5);
                }
                TariffBoxes x = States.odd(4);
                TariffBoxes y = States.odd(3);
                for (int what = 0; what < 3; what++) {
                    String call = "till of " + n + " by " + seed + ", what " + what;
                    Dues.due(call, x.till(x.count(0) - 1, seed, n, what), sums[what]);
                    Dues.due(call, y.till(y.count(0) - 1, seed, n, what), firsts[what]);
                }
            }
        }
    }

    private static void tally(int[] told, int said) {
        told[0] += Math.max(0, said);
        told[1] += said < 0 ? 1 : 0;
        told[2] = Math.max(told[2], said);
    }
}
