/** Promises 29 to 36: racks, laid and judged plain forms, the image, counts. */
public final class RacksTest {
    public static void main(String[] args) {
        racks();
        putsAndGets();
        lays();
        laysAtTheEdges();
        laysOfNothing();
        judges();
        judgesFlawsInOrder();
        judgesWhatLacks();
        judgesTheFirstPart();
        images();
        imagesOfAllThereCanBe();
        imagesLeaveTheRest();
        counts();
        Dues.end("RacksTest");
    }

    private static void racks() {
        TariffBoxes x = new TariffBoxes();
        Dues.due("rack(-1, 71)", x.rack(-1, 71), -1);
        Dues.due("rack(4, -1)", x.rack(4, -1), -1);
        Dues.due("rack(0, 71)", x.rack(0, 71), -2);
        Dues.due("rack(0, MAX)", x.rack(0, Integer.MAX_VALUE), -2);
        Dues.due("rack(0, -1)", x.rack(0, -1), -14);
        Dues.due("rack(0, MIN)", x.rack(0, Integer.MIN_VALUE), -14);
        Dues.due("holds nothing still", x.put(0, 0, 1), -11);
        Dues.due("rack(0, 0)", x.rack(0, 0), 1);
        Dues.due("no place", x.put(0, 0, 1), -13);
        Dues.due("rack(3, 70)", x.rack(3, 70), 1);
        Dues.due("the others hold nothing", x.put(2, 0, 1), -11);
        for (int i = 0; i < 70; i++) {
            Dues.due("get(3, " + i + ")", x.get(3, i), 0);
        }
        Dues.due("get(3, 70)", x.get(3, 70), Long.MIN_VALUE);
    }

    private static void putsAndGets() {
        TariffBoxes x = new TariffBoxes();
        Dues.due("put(4, 0, 0)", x.put(4, 0, 0), -1);
        Dues.due("put(-1, 0, 0)", x.put(-1, 0, 0), -1);
        Dues.due("put(0, 0, 0)", x.put(0, 0, 0), -11);
        Dues.due("get(0, 0)", x.get(0, 0), Long.MIN_VALUE);
        Dues.due("get(-1, 0)", x.get(-1, 0), Long.MIN_VALUE);
        Dues.due("get(4, 0)", x.get(4, 0), Long.MIN_VALUE);
        x.rack(0, 5);
        x.rack(1, 5);
        Dues.due("put(0, 5, 0)", x.put(0, 5, 0), -13);
        Dues.due("put(0, -1, 0)", x.put(0, -1, 0), -13);
        Dues.due("put least", x.put(0, 0, Integer.MIN_VALUE), 1);
        Dues.due("put greatest", x.put(0, 4, Integer.MAX_VALUE), 1);
        Dues.due("get least", x.get(0, 0), Integer.MIN_VALUE);
        Dues.due("get greatest", x.get(0, 4), Integer.MAX_VALUE);
        Dues.due("get(0, -1)", x.get(0, -1), Long.MIN_VALUE);
        Dues.due("get(0, 5)", x.get(0, 5), Long.MIN_VALUE);
        Dues.due("the other one", x.get(1, 0), 0);
        Dues.due("bad changes nothing", x.rack(0, 71), -2);
        Dues.due("below changes nothing", x.rack(0, -1), -14);
        Dues.due("get least", x.get(0, 0), Integer.MIN_VALUE);
        x.rack(0, 3);
        Dues.due("0 anew", x.get(0, 0), 0);
        Dues.due("shorter", x.get(0, 4), Long.MIN_VALUE);
        x.rack(0, 5);
        Dues.due("0 anew", x.get(0, 4), 0);
    }

    private static String row(TariffBoxes x, int rack, int n) {
        StringBuilder text = new StringBuilder();
        for (int i = 0; i < n; i++) {
            text.append(i == 0 ? "" : " ").append(x.get(rack, i));
        }
        return text.toString();
    }

    private static void lays() {
        TariffBoxes x = new TariffBoxes();
        Dues.due("read", Dues.tell(x, "/(?001202(31),?341202(30))"), 4);
        x.rack(2, 16);
        Dues.due("lay", x.lay(4, 2, 1), 14);
        Dues.same("row", row(x, 2, 16), "0 0 0 1 2 0 2 31 3 4 1 2 0 2 30 0");
        Dues.due("lay(5, 2, 0)", x.lay(5, 2, 0), -1);
        Dues.due("lay(-1, 2, 0)", x.lay(-1, 2, 0), -1);
        Dues.due("lay(4, 4, 0)", x.lay(4, 4, 0), -1);
        Dues.due("lay(4, -1, 0)", x.lay(4, -1, 0), -1);
        Dues.due("lay(4, 1, -1)", x.lay(4, 1, -1), -11);
        Dues.due("none ahead of nothing", x.lay(5, 1, 0), -1);
    }

    private static void laysAtTheEdges() {
        TariffBoxes x = new TariffBoxes();
        Dues.due("read", Dues.tell(x, "/(?001202(31),?341202(30))"), 4);
        x.rack(0, 14);
        Dues.due("just all", x.lay(4, 0, 0), 14);
        x.rack(0, 14);
        Dues.due("one too many", x.lay(4, 0, 1), -13);
        Dues.same("those are there", row(x, 0, 14), "0 0 0 1 2 0 2 31 3 4 1 2 0 2");
        x.rack(0, 14);
        Dues.due("below 0", x.lay(4, 0, -1), -13);
        Dues.same("none is there", row(x, 0, 14), "0 0 0 0 0 0 0 0 0 0 0 0 0 0");
        Dues.due("least", x.lay(4, 0, Integer.MIN_VALUE), -13);
        Dues.due("greatest", x.lay(4, 0, Integer.MAX_VALUE), -13);
        Dues.due("behind the row", x.lay(4, 0, 14), -13);
        Dues.same("none is there", row(x, 0, 14), "0 0 0 0 0 0 0 0 0 0 0 0 0 0");
        x.rack(1, 0);
        Dues.due("into no places", x.lay(4, 1, 0), -13);
        Dues.due("the last place", x.lay(0, 0, 13), -13);
        Dues.due("the last place", x.get(0, 13), 0);
    }

    /** Where nothing is to be laid all of it was. */
    private static void laysOfNothing() {
        TariffBoxes x = new TariffBoxes();
        x.empty();
        x.rack(0, 0);
        Dues.due("no parts", x.lay(0, 0, 0), 0);
        Dues.due("no parts, behind the row", x.lay(0, 0, 5), 0);
        Dues.due("no parts, below 0", x.lay(0, 0, -1), 0);
    }

    private static void fill(TariffBoxes x, int rack, int... numbers) {
        x.rack(rack, numbers.length);
        for (int i = 0; i < numbers.length; i++) {
            x.put(rack, i, numbers[i]);
        }
    }

    private static void judges() {
        TariffBoxes x = new TariffBoxes();
        Dues.due("read", Dues.tell(x, "/(?001202(31),?341202(30))"), 4);
        Dues.due("nothing held", x.judge(0, 4), -11);
        Dues.due("no rack", x.judge(4, 4), -1);
        Dues.due("rack -1", x.judge(-1, 4), -1);
        Dues.due("no term, nothing held", x.judge(0, 5), -1);
        x.rack(0, 14);
        x.lay(4, 0, 0);
        Dues.due("as laid", x.judge(0, 4), -5);
        Dues.due("no term", x.judge(0, 5), -1);
        Dues.due("term -1", x.judge(0, -1), -1);
        fill(x, 0, 3, 4, 1, 2, 0, 2, 30, 0, 0, 1, 2, 0, 2, 31);
        Dues.due("turned", x.judge(0, 4), -5);
        fill(x, 0, 0, 0, 1, 2, 0, 2, 31);
        Dues.due("a part short", x.judge(0, 4), 500 + Dues.caseOf(3, 1, 0));
        fill(x, 0, 3, 4, 1, 2, 0, 2, 30, 0, 0, 1, 2, 0, 3, 31);
        Dues.due("says something of a gap", x.judge(0, 4), 500 + Dues.caseOf(0, 1, 3));
        fill(x, 0, 3, 4, 1, 2, 0, 2, 30, 0, 0, 1, 2, 0, 2, 30);
        Dues.due("another fee", x.judge(0, 4), 500 + Dues.caseOf(0, 1, 0));
        fill(x, 0, 0, 7, 0, 6, 0, 3, 31);
        Dues.due("of all, of case 0", x.judge(0, 4), 500);
        x.flat(31);
        Dues.due("of all", x.judge(0, 5), -5);
        fill(x, 0, 0, 6, 0, 6, 0, 3, 31, 7, 7, 0, 6, 0, 2, 31, 7, 7, 0, 5, 3, 3, 31);
        Dues.due("the last case", x.judge(0, 5), 723);
        fill(x, 0);
        Dues.due("no parts", x.judge(0, 5), 500);
        x.empty();
        Dues.due("no parts, nothing said", x.judge(0, 6), -5);
        Dues.due("changes nothing", x.count(0), 7);
    }

    private static void judgesFlawsInOrder() {
        TariffBoxes x = new TariffBoxes();
        x.flat(5);
        int[] good = {1, 2, 3, 4, 1, 2, 5};
        int[][] bad = {{-1, 8}, {0, 8}, {-1, 7}, {2, 7}, {-1, 4}, {0, 4}, {-1, 100}};
        for (int part = 0; part < 10; part++) {
            for (int place = 0; place < 7; place++) {
                for (int v : bad[place]) {
                    x = new TariffBoxes();
                    x.flat(5);
                    int[] row = new int[70];
                    for (int k = 0; k < 70; k++) {
                        row[k] = good[k % 7];
                    }
                    row[7 * part + place] = v;
                    fill(x, 0, row);
                    String call = "judge of " + v + " at " + place + " of part " + part;
                    Dues.due(call, x.judge(0, 0), 10 * part + place);
                }
            }
        }
        fill(x, 0, 0, 7, 0, 6, 0, 3, 99);
        Dues.due("the greatest of each", x.judge(0, 0), 500);
        fill(x, 0, 7, 7, 6, 6, 3, 3, 0);
        Dues.due("first and last alike", x.judge(0, 0), 500);
        fill(x, 0, 0, 7, 0, 6, 2, 1, 5, 9, 9);
        Dues.due("the first of more", x.judge(0, 0), 5);
        fill(x, 0, Integer.MIN_VALUE, 7, 0, 6, 0, 3, 5);
        Dues.due("least", x.judge(0, 0), 0);
        fill(x, 0, 0, 7, 0, 6, 0, 3, Integer.MAX_VALUE);
        Dues.due("greatest", x.judge(0, 0), 6);
    }

    private static void judgesWhatLacks() {
        TariffBoxes x = new TariffBoxes();
        x.flat(5);
        for (int n = 1; n <= 70; n++) {
            x.rack(0, n);
            Dues.due("judge of " + n + " zeros", x.judge(0, 0), n % 7 == 0 ? 500 : n / 7 * 10 + n % 7);
        }
        fill(x, 0, 0, 7, 0, 6, 0, 3, 5, 0, 8);
        Dues.due("can't be ahead of lacks", x.judge(0, 0), 11);
    }

    private static void judgesTheFirstPart() {
        TariffBoxes x = new TariffBoxes();
        x.flat(5);
        fill(x, 0, 0, 7, 0, 6, 0, 3, 5, 0, 7, 0, 6, 0, 3, 6);
        Dues.due("the first part", x.judge(0, 0), -5);
        fill(x, 0, 0, 7, 0, 6, 0, 3, 6, 0, 7, 0, 6, 0, 3, 5);
        Dues.due("not the last part", x.judge(0, 0), 500);
    }

    private static void images() {
        TariffBoxes x = new TariffBoxes();
        Dues.due("none", x.undo(), -3);
        Dues.due("of no terms", x.image(), 0);
        x.flat(1);
        Dues.due("undo to none", x.undo(), 0);
        Dues.due("count", x.count(0), 0);
        Dues.tell(x, "/(?001202(31),^341202:9(30))");
        x.two(4, 4, 1);
        x.paid(3, 4);
        x.paid(5, -1);
        String said = Dues.muchSaid(x, 5);
        Dues.due("image", x.image(), 6);
        for (int k = 0; k < 6; k++) {
            x.drop();
        }
        for (int k = 0; k < 10; k++) {
            x.flat(k);
        }
        x.cap(0, 70603, 1);
        x.paid(-1, 0);
        x.paid(7, 7);
        Dues.due("undo", x.undo(), 6);
        Dues.due("terms", x.count(0), 6);
        Dues.due("paid", x.count(1), 2);
        Dues.same("said", Dues.muchSaid(x, 5), said);
        Dues.same("spelled", Dues.spelled(x, 5), "+(/(?001202(31),^341202:9(30)),?001202(31))");
        int[] fifth = {4, -5, 4, 1, 8, 3, -5};
        for (int what = 0; what < 7; what++) {
            Dues.due("of(5, " + what + ")", x.of(5, what), fifth[what]);
        }
        Dues.due("paid fits", x.fits(0, 5, 0), 0);
        x.drop();
        x.paid(-1, 0);
        Dues.due("undo again", x.undo(), 6);
        Dues.due("paid again", x.count(1), 2);
        x.drop();
        Dues.due("another image", x.image(), 5);
        x.flat(9);
        Dues.due("undo to it", x.undo(), 5);
        x.paid(-1, 0);
        x.paid(Dues.caseOf(0, 1, 0), 44);
        x.image();
        x.paid(-1, 0);
        x.paid(Dues.caseOf(0, 1, 0), 45);
        x.undo();
        Dues.due("paid as it was", x.fits(0, 4, 1), 44);
    }

    private static void imagesOfAllThereCanBe() {
        TariffBoxes x = new TariffBoxes();
        for (int k = 0; k < 24; k++) {
            x.flat(k);
        }
        for (int k = 0; k < 8; k++) {
            x.paid(k, 23);
        }
        Dues.due("image", x.image(), 24);
        x.drop();
        x.flat(99);
        x.paid(-1, 0);
        Dues.due("undo", x.undo(), 24);
        Dues.due("the last term", x.of(23, 1), 23);
        Dues.due("paid", x.count(1), 8);
        Dues.due("the last one paid", x.fits(23, 23, 1), 23);
    }

    private static void imagesLeaveTheRest() {
        TariffBoxes x = new TariffBoxes();
        x.flat(12);
        x.rack(0, 2);
        x.image();
        x.spell(0);
        x.put(0, 1, 8);
        Dues.tell(x, "+(x");
        Dues.feed(x, "12");
        x.undo();
        Dues.due("rack", x.get(0, 1), 8);
        Dues.due("tape", x.count(2), 2);
        Dues.due("way", x.way(-1), 1);
        Dues.due("paper", x.count(3), 2);
        Dues.due("undo changes no image", x.undo(), 1);
    }

    private static void counts() {
        TariffBoxes x = new TariffBoxes();
        x.flat(12);
        Dues.due("size of one", x.count(5), 1);
        x.when(0, 603);
        x.when(1, 603);
        x.cap(1, 603, 1);
        x.two(3, 1, 2);
        x.paid(0, 0);
        Dues.feed(x, "-----");
        x.spell(2);
        int[] due = {5, 1, 5, 20, 2, 6};
        for (int what = 0; what < due.length; what++) {
            Dues.due("count(" + what + ")", x.count(what), due[what]);
        }
        Dues.due("count(6)", x.count(6), -2);
        Dues.due("count(-1)", x.count(-1), -2);
        x.drop();
        Dues.due("greatest size behind a drop", x.count(5), 3);
    }
}
