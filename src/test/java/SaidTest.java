/** Promises 16 to 21: what a term says of cases, sums, odds, the plain form, gaps, diffs. */
public final class SaidTest {
    public static void main(String[] args) {
        says();
        sum();
        odds();
        wrongNumbers();
        plainFormOfAll();
        cornersGrowByHoursFirst();
        boxesStopAtBoxes();
        boxesOfUnlikeFees();
        gaps();
        diffs();
        diffsByPairs();
        Dues.end("SaidTest");
    }

    private static void says() {
        TariffBoxes x = new TariffBoxes();
        x.flat(30);
        Dues.tell(x, "/(?131302(7),^001313:20(?063603(40)))");
        int term = x.count(0) - 1;
        Dues.due("the one", x.says(term, Dues.caseOf(1, 1, 0)), 7);
        Dues.due("behind its hours", x.says(term, Dues.caseOf(1, 3, 3)), 40);
        Dues.due("capped", x.says(term, Dues.caseOf(0, 3, 1)), 20);
        Dues.due("neither", x.says(term, Dues.caseOf(7, 0, 0)), -5);
        Dues.due("case -1", x.says(term, -1), -1);
        Dues.due("case 224", x.says(term, 224), -1);
        Dues.due("case 223", x.says(0, 223), 30);
        Dues.due("no term", x.says(term + 1, 0), -1);
        Dues.due("term -1", x.says(-1, 0), -1);
        Dues.due("asked changes nothing", x.count(0), term + 1);
    }

    private static void sum() {
        TariffBoxes x = new TariffBoxes();
        x.flat(99);
        x.flat(0);
        x.empty();
        x.when(0, 23344);
        x.when(0, 233412);
        x.when(1, 70603);
        x.two(4, 3, 0);
        Dues.due("earns of 99", x.sum(0, 0), 22176);
        Dues.due("covers of 99", x.sum(0, 1), 224);
        Dues.due("earns of 0", x.sum(1, 0), 0);
        Dues.due("covers of 0", x.sum(1, 1), 224);
        Dues.due("earns of nothing", x.sum(2, 0), 0);
        Dues.due("covers of nothing", x.sum(2, 1), 0);
        Dues.due("earns within", x.sum(3, 0), 8 * 99);
        Dues.due("covers within", x.sum(3, 1), 8);
        Dues.due("sum(0, 2)", x.sum(0, 2), -1);
        Dues.due("sum(0, -1)", x.sum(0, -1), -1);
        Dues.due("sum(-1, 0)", x.sum(-1, 0), -1);
        Dues.due("sum of no term", x.sum(x.count(0), 0), -1);
    }

    private static void odds() {
        TariffBoxes x = new TariffBoxes();
        x.flat(99);
        x.empty();
        x.when(0, 33333);
        x.when(0, 202);
        x.when(0, 60402);
        Dues.due("all above", x.odds(0, 0), 1);
        Dues.due("all below", x.odds(0, 1), 1);
        Dues.due("none above", x.odds(1, 0), 0);
        Dues.due("none below", x.odds(1, 1), 1);
        Dues.due("4 of 224 above", x.odds(2, 0), 1);
        Dues.due("4 of 224 below", x.odds(2, 1), 56);
        Dues.due("9 of 224 above", x.odds(3, 0), 9);
        Dues.due("9 of 224 below", x.odds(3, 1), 224);
        Dues.due("105 of 224 above", x.odds(4, 0), 15);
        Dues.due("105 of 224 below", x.odds(4, 1), 32);
        x.when(0, 1);
        Dues.due("2 of 224 above", x.odds(5, 0), 1);
        Dues.due("2 of 224 below", x.odds(5, 1), 112);
        Dues.due("part 2", x.odds(0, 2), Long.MIN_VALUE);
        Dues.due("part -1", x.odds(0, -1), Long.MIN_VALUE);
        Dues.due("no term", x.odds(6, 0), Long.MIN_VALUE);
        Dues.due("term -1", x.odds(-1, 1), Long.MIN_VALUE);
    }

    private static void wrongNumbers() {
        TariffBoxes x = new TariffBoxes();
        x.flat(5);
        x.when(0, 11101);
        for (int what : new int[] {-1, 7, 8, Integer.MIN_VALUE, Integer.MAX_VALUE}) {
            Dues.due("part what " + what, x.part(0, 0, what), -1);
            Dues.due("parts, whatever what is", x.part(0, -1, what), 1);
            Dues.due("gaps, whatever what is", x.gap(1, -1, what), 4);
            Dues.due("diffs, whatever what is", x.diff(0, 1, -1, what), 4);
        }
        Dues.due("gap what 6", x.gap(1, 0, 6), -1);
        Dues.due("gap what -1", x.gap(1, 0, -1), -1);
        Dues.due("diff what 8", x.diff(0, 1, 0, 8), -1);
        Dues.due("diff what -1", x.diff(0, 1, 0, -1), -1);
        for (int i : new int[] {-2, 1, 224, Integer.MIN_VALUE, Integer.MAX_VALUE}) {
            Dues.due("part " + i, x.part(0, i, 0), -1);
            Dues.due("part " + i + " fee", x.part(0, i, 6), -1);
        }
        for (int i : new int[] {-2, 4, Integer.MIN_VALUE, Integer.MAX_VALUE}) {
            Dues.due("gap " + i, x.gap(1, i, 0), -1);
            Dues.due("diff " + i, x.diff(0, 1, i, 0), -1);
            Dues.due("diff " + i + " one", x.diff(0, 1, i, 6), -1);
            Dues.due("diff " + i + " other", x.diff(0, 1, i, 7), -1);
        }
        for (int term : new int[] {-1, 2, Integer.MIN_VALUE, Integer.MAX_VALUE}) {
            Dues.due("part of " + term, x.part(term, -1, 0), -1);
            Dues.due("gap of " + term, x.gap(term, -1, 0), -1);
            Dues.due("diff of " + term, x.diff(term, 0, -1, 0), -1);
            Dues.due("diff with " + term, x.diff(0, term, -1, 0), -1);
        }
    }

    private static String part(TariffBoxes x, int term, int i) {
        StringBuilder text = new StringBuilder();
        for (int what = 0; what <= 5; what++) {
            text.append(x.part(term, i, what));
        }
        return text.append(":").append(x.part(term, i, 6)).toString();
    }

    private static String parts(TariffBoxes x, int term) {
        StringBuilder text = new StringBuilder();
        int many = x.part(term, -1, 0);
        for (int i = 0; i < many; i++) {
            text.append(i == 0 ? "" : " ").append(part(x, term, i));
        }
        return text.toString();
    }

    private static String gaps(TariffBoxes x, int term) {
        StringBuilder text = new StringBuilder();
        int many = x.gap(term, -1, 0);
        for (int i = 0; i < many; i++) {
            text.append(i == 0 ? "" : " ");
            for (int what = 0; what <= 5; what++) {
                text.append(x.gap(term, i, what));
            }
        }
        return text.toString();
    }

    private static String diffs(TariffBoxes x, int term, int other) {
        StringBuilder text = new StringBuilder();
        int many = x.diff(term, other, -1, 0);
        for (int i = 0; i < many; i++) {
            text.append(i == 0 ? "" : " ");
            for (int what = 0; what <= 5; what++) {
                text.append(x.diff(term, other, i, what));
            }
            text.append(":").append(x.diff(term, other, i, 6)).append("|").append(x.diff(term, other, i, 7));
        }
        return text.toString();
    }

    private static void plainFormOfAll() {
        TariffBoxes x = new TariffBoxes();
        x.flat(0);
        x.empty();
        Dues.same("of a flat one", parts(x, 0), "070603:0");
        Dues.same("of a void one", parts(x, 1), "");
        Dues.due("of a void one", x.part(1, -1, 0), 0);
        Dues.same("gaps of a flat one", gaps(x, 0), "");
        Dues.same("gaps of a void one", gaps(x, 1), "070603");
        Dues.same("diffs", diffs(x, 0, 1), "070603:0|-5");
        Dues.same("diffs, turned", diffs(x, 1, 0), "070603:-5|0");
    }

    private static void cornersGrowByHoursFirst() {
        TariffBoxes x = new TariffBoxes();
        // an L of hours and days: the hours are taken as far as they go, the days only with all of them
        Dues.due("read", Dues.tell(x, "/(?000002(5),?000401(5))"), 4);
        Dues.same("hours, then days", parts(x, 4), "000002:5 001401:5");
        Dues.due("read", Dues.tell(x, "/(?001303(5),?041301(5))"), 9);
        Dues.same("days, then ages", parts(x, 9), "001303:5 141301:5");
        Dues.due("read", Dues.tell(x, "/(?021302(6),?350602(6))"), 14);
        Dues.same("ages of unlike days", parts(x, 14), "051302:6 350002:6 354602:6");
        Dues.due("read", Dues.tell(x, "/(?001323(6),?110622(6))"), 19);
        Dues.same("a corner of lesser hours does not reach back", parts(x, 19), "001323:6 110622:6");
    }

    private static void boxesStopAtBoxes() {
        TariffBoxes x = new TariffBoxes();
        // the first box takes hour 1 of days 0 to 6; the second one can't have it any more
        Dues.due("read", Dues.tell(x, "/(?000611(5),?003503(5))"), 4);
        Dues.same("parts", parts(x, 4), "000611:5 003500:5 003523:5");
        Dues.due("read", Dues.tell(x, "/(?071111(5),/(?230303(5),?230033(9)))"), 12);
        Dues.same("of ages", parts(x, 12), "071111:5 230003:5 231300:5 231323:5 232311:5");
    }

    private static void boxesOfUnlikeFees() {
        TariffBoxes x = new TariffBoxes();
        Dues.due("read", Dues.tell(x, "/(?131302(7),/(?242403(5),0))"), 6);
        Dues.same("parts", parts(x, 6), "000603:0 170003:0 131302:7 111633:0 114602:0 271133:0"
            + " 242433:5 244402:5 275603:0 471102:0 442302:5 572403:0");
        Dues.due("the first", x.part(6, 0, 6), 0);
        Dues.due("its last age", x.part(6, 0, 1), 0);
    }

    private static void gaps() {
        TariffBoxes x = new TariffBoxes();
        x.flat(0);
        x.when(0, 70600);
        x.when(0, 171623);
        Dues.same("gaps behind the first hour", gaps(x, 1), "070613");
        Dues.same("gaps around a box", gaps(x, 2), "000603 170003 171601");
    }

    private static void diffs() {
        TariffBoxes x = new TariffBoxes();
        x.flat(4);
        x.when(0, 70600);
        x.when(0, 70601);
        x.flat(9);
        x.when(3, 70600);
        Dues.same("with itself", diffs(x, 1, 1), "");
        Dues.same("of unlike boxes", diffs(x, 1, 2), "070611:-5|4");
        Dues.same("of unlike boxes, turned", diffs(x, 2, 1), "070611:4|-5");
        Dues.same("of unlike fees", diffs(x, 1, 4), "070600:4|9");
        Dues.same("of like says by unlike terms", diffs(x, 1, x.when(2, 70600)), "");
    }

    private static void diffsByPairs() {
        TariffBoxes x = new TariffBoxes();
        x.flat(1);
        x.flat(2);
        x.when(0, 70601);
        x.when(1, 70600);
        x.when(1, 70611);
        x.two(3, 3, 0);
        x.two(3, 4, 0);
        Dues.same("unlike pairs are unlike boxes", diffs(x, 5, 6), "070600:2|1 070611:1|2");
        Dues.same("the one alike, the other not", diffs(x, 2, 5), "070600:1|2 070623:-5|1");
        TariffBoxes y = new TariffBoxes();
        y.flat(0);
        y.flat(99);
        y.empty();
        Dues.same("0 and 99", diffs(y, 0, 1), "070603:0|99");
        Dues.same("99 and 0", diffs(y, 1, 0), "070603:99|0");
        Dues.same("99 and nothing", diffs(y, 1, 2), "070603:99|-5");
    }
}
