/** Promises 22 to 24: rules, rules that never say anything, overlaps. */
public final class RulesTest {
    public static void main(String[] args) {
        rulesInOrder();
        rulesAsOftenAsTheyAre();
        capsAreNoRules();
        idleBehindAnother();
        idleThereAlone();
        idleOfEachKind();
        overlap();
        Dues.end("RulesTest");
    }

    private static String rules(TariffBoxes x, int term) {
        StringBuilder text = new StringBuilder();
        int many = x.rule(term, -1);
        for (int i = 0; i < many; i++) {
            text.append(i == 0 ? "" : " ").append(x.rule(term, i)).append(x.idle(term, i) == 1 ? "!" : "");
        }
        return text.toString();
    }

    private static void rulesInOrder() {
        TariffBoxes x = new TariffBoxes();
        Dues.due("read", Dues.tell(x, "?070503(+(?000603(1),?110603(?070600(2))))"), 6);
        Dues.same("itself, the one, the other one", rules(x, 6), "6 1 4 3");
        Dues.due("rule(6, -1)", x.rule(6, -1), 4);
        Dues.due("rule(6, 4)", x.rule(6, 4), -1);
        Dues.due("rule(6, -2)", x.rule(6, -2), -1);
        Dues.due("rule(6, MAX)", x.rule(6, Integer.MAX_VALUE), -1);
        Dues.due("rule(7, -1)", x.rule(7, -1), -1);
        Dues.due("rule(-1, -1)", x.rule(-1, -1), -1);
        Dues.due("idle(6, 4)", x.idle(6, 4), -1);
        Dues.due("idle(6, -1)", x.idle(6, -1), -1);
        Dues.due("idle(7, 0)", x.idle(7, 0), -1);
        Dues.due("idle(-1, 0)", x.idle(-1, 0), -1);
        Dues.due("no rules", x.rule(0, -1), 0);
        Dues.due("no rule 0", x.rule(0, 0), -1);
        Dues.due("no rule 0 to be idle", x.idle(0, 0), -1);
    }

    private static void rulesAsOftenAsTheyAre() {
        TariffBoxes x = new TariffBoxes();
        x.flat(3);
        x.when(0, 70600);
        x.two(4, 1, 1);
        x.two(5, 2, 1);
        Dues.due("how many", x.rule(3, -1), 3);
        Dues.due("rule 2", x.rule(3, 2), 1);
        Dues.due("rule 3", x.rule(3, 3), -1);
    }

    private static void capsAreNoRules() {
        TariffBoxes x = new TariffBoxes();
        x.flat(30);
        x.cap(0, 70600, 3);
        x.when(1, 70600);
        Dues.due("of a cap", x.rule(1, -1), 0);
        Dues.same("of a when of a cap", rules(x, 2), "2");
        Dues.due("count(4)", x.count(4), 1);
    }

    private static void idleBehindAnother() {
        TariffBoxes x = new TariffBoxes();
        Dues.due("read", Dues.tell(x, "/(?070503(1),?130203(2))"), 4);
        Dues.same("hidden", rules(x, 4), "1 3!");
        Dues.due("idle(4, 0)", x.idle(4, 0), 0);
        Dues.due("idle(4, 1)", x.idle(4, 1), 1);
        Dues.due("read", Dues.tell(x, "/(?070503(1),?130603(2))"), 9);
        Dues.same("not wholly hidden", rules(x, 9), "6 8");
        Dues.due("read", Dues.tell(x, "/(?130203(2),?070503(2))"), 14);
        Dues.same("says the same without", rules(x, 14), "11! 13");
    }

    private static void idleThereAlone() {
        TariffBoxes x = new TariffBoxes();
        x.flat(3);
        x.when(0, 70600);
        x.two(5, 1, 1);
        Dues.same("each alone, not both", rules(x, 2), "1! 1!");
        x.two(4, 1, 1);
        Dues.same("both are wanted", rules(x, 3), "1 1");
        Dues.due("asked changes nothing", x.says(2, 0), 3);
    }

    private static void idleOfEachKind() {
        TariffBoxes x = new TariffBoxes();
        Dues.due("read", Dues.tell(x, "?070600(?070611(1))"), 2);
        Dues.same("of boxes that have none together", rules(x, 2), "2! 1!");
        Dues.due("read", Dues.tell(x, "+(99,?070600(5))"), 6);
        Dues.same("behind 99", rules(x, 6), "5!");
        Dues.due("read", Dues.tell(x, "+(98,?070600(5))"), 10);
        Dues.same("behind 98", rules(x, 10), "9");
        Dues.due("read", Dues.tell(x, "<(4,?070600(5))"), 14);
        Dues.same("not lower", rules(x, 14), "13!");
        Dues.due("read", Dues.tell(x, "!(?070600(4),?070611(5))"), 19);
        Dues.same("bars nothing", rules(x, 19), "16 18!");
        x = new TariffBoxes();
        Dues.due("read", Dues.tell(x, "!(?070600(4),?000603(5))"), 4);
        Dues.same("bars some", rules(x, 4), "1 3");
        Dues.due("read", Dues.tell(x, "+(5,?070600(0))"), 8);
        Dues.same("0 more is nothing more", rules(x, 8), "7!");
        Dues.due("read", Dues.tell(x, "?070603(-)"), 10);
        Dues.same("of nothing", rules(x, 10), "10!");
        Dues.due("read", Dues.tell(x, "^070603:0(/(?000603(5),9))"), 15);
        Dues.same("under a cap", rules(x, 15), "12!");
        x = new TariffBoxes();
        Dues.due("read", Dues.tell(x, "+(?000000(4),/(?776633(5),-))"), 6);
        Dues.same("of the first case alone, of the last one alone", rules(x, 6), "1 3");
    }

    private static void overlap() {
        TariffBoxes x = new TariffBoxes();
        x.flat(3);
        x.when(0, 130212);
        x.cap(0, 351523, 1);
        x.when(0, 70603);
        x.when(0, 470603);
        x.two(3, 1, 1);
        Dues.due("1, 2, 1", x.overlap(1, 2), 2);
        Dues.due("turned", x.overlap(2, 1), 2);
        Dues.due("with itself", x.overlap(1, 1), 18);
        Dues.due("all", x.overlap(3, 3), 224);
        Dues.due("within all", x.overlap(3, 2), 30);
        Dues.due("none together", x.overlap(1, 4), 0);
        Dues.due("of ages apart, days and hours too", x.overlap(x.when(0, 1100), x.when(0, 771133)), 0);
        Dues.due("no box", x.overlap(0, 1), -5);
        Dues.due("no other box", x.overlap(1, 5), -5);
        Dues.due("no term", x.overlap(8, 0), -1);
        Dues.due("no other term", x.overlap(0, 8), -1);
        Dues.due("term -1", x.overlap(-1, 1), -1);
    }
}
