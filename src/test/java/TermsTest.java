/** Promises 1 to 15: terms made by calls and from texts, the way to a fault, spelling. */
public final class TermsTest {
    public static void main(String[] args) {
        newObject();
        asReadmeShows();
        flatAndEmpty();
        whenAndCap();
        boxesAtTheirEdges();
        two();
        drop();
        room();
        size();
        tape();
        readsEachForm();
        readsInOrder();
        faultsOfLetters();
        faultsOfBoxes();
        faultsOfNumbers();
        faultsOfNesting();
        wayStays();
        readFull();
        of();
        taken();
        spell();
        Dues.end("TermsTest");
    }

    private static void newObject() {
        TariffBoxes x = new TariffBoxes();
        for (int what = 0; what <= 5; what++) {
            Dues.due("new: count(" + what + ")", x.count(what), 0);
        }
        Dues.due("new: of(0, 0)", x.of(0, 0), -1);
        Dues.due("new: way(-1)", x.way(-1), 0);
        Dues.due("new: way(0)", x.way(0), -1);
        Dues.due("new: paper(0)", x.paper(0), -1);
        Dues.due("new: undo()", x.undo(), -3);
        Dues.due("new: judge(0, 0)", x.judge(0, 0), -1);
    }

    private static void asReadmeShows() {
        TariffBoxes x = new TariffBoxes();
        int fee = x.flat(12);
        int early = x.when(fee, 70600);
        Dues.due("early", early, 1);
        Dues.due("says(early, 0)", x.says(early, 0), 12);
        Dues.due("says(early, 1)", x.says(early, 1), TariffBoxes.NOT);
        Dues.due("part(early, -1, 0)", x.part(early, -1, 0), 1);
        int told = Dues.tell(x, "/(#1,?070603(5))");
        Dues.due("told", told, 4);
        Dues.due("what 1 says", x.says(told, 0), 12);
        Dues.due("else 5", x.says(told, 1), 5);
    }

    private static void flatAndEmpty() {
        TariffBoxes x = new TariffBoxes();
        Dues.due("flat(-1)", x.flat(-1), -2);
        Dues.due("flat(100)", x.flat(100), -2);
        Dues.due("flat(MIN)", x.flat(Integer.MIN_VALUE), -2);
        Dues.due("flat(0)", x.flat(0), 0);
        Dues.due("flat(99)", x.flat(99), 1);
        Dues.due("empty()", x.empty(), 2);
        Dues.due("says(0, 0)", x.says(0, 0), 0);
        Dues.due("says(1, 223)", x.says(1, 223), 99);
        Dues.due("says(2, 5)", x.says(2, 5), -5);
        Dues.due("of(2, 0)", x.of(2, 0), 1);
    }

    private static void whenAndCap() {
        TariffBoxes x = new TariffBoxes();
        Dues.due("when of none", x.when(0, 70603), -1);
        Dues.due("when of none, bad box", x.when(0, -1), -1);
        Dues.due("cap of none, bad fee", x.cap(0, 70603, 100), -1);
        x.flat(50);
        Dues.due("when", x.when(0, 120312), 1);
        Dues.due("cap", x.cap(0, 120312, 20), 2);
        Dues.due("cap, bad box", x.cap(0, 210000, 20), -2);
        Dues.due("cap, bad fee", x.cap(0, 120312, 100), -2);
        Dues.due("cap, fee below 0", x.cap(0, 120312, -1), -2);
        Dues.due("cap of -1", x.cap(-1, 120312, 5), -1);
        Dues.due("cap of 3", x.cap(3, 120312, 5), -1);
        Dues.due("when of 3", x.when(3, 120312), -1);
        Dues.due("within", x.says(1, Dues.caseOf(1, 0, 1)), 50);
        Dues.due("last corner", x.says(1, Dues.caseOf(2, 3, 2)), 50);
        Dues.due("age below", x.says(1, Dues.caseOf(0, 0, 1)), -5);
        Dues.due("age above", x.says(1, Dues.caseOf(3, 0, 1)), -5);
        Dues.due("day above", x.says(1, Dues.caseOf(1, 4, 1)), -5);
        Dues.due("hour below", x.says(1, Dues.caseOf(1, 0, 0)), -5);
        Dues.due("hour above", x.says(1, Dues.caseOf(1, 0, 3)), -5);
        Dues.due("capped", x.says(2, Dues.caseOf(1, 0, 1)), 20);
        Dues.due("not capped", x.says(2, Dues.caseOf(1, 0, 0)), 50);
        x.cap(2, 70603, 30);
        Dues.due("cap above what is said", x.says(3, Dues.caseOf(1, 0, 1)), 20);
        Dues.due("cap of a cap", x.says(3, 0), 30);
        x.empty();
        x.cap(4, 70603, 30);
        Dues.due("cap of nothing", x.says(5, 0), -5);
    }

    private static void boxesAtTheirEdges() {
        TariffBoxes x = new TariffBoxes();
        x.flat(1);
        int[] bad = {-1, 1000000, 80603, 70703, 70604, 217777, 106000, 900000, 103010, 1032, 31, 100000,
            1000, 10, Integer.MIN_VALUE, Integer.MAX_VALUE, 1070603};
        for (int box : bad) {
            Dues.due("when(0, " + box + ")", x.when(0, box), -2);
            Dues.due("cap(0, " + box + ", 1)", x.cap(0, box, 1), -2);
        }
        int[] good = {0, 776633, 70603, 3, 603, 110000};
        for (int k = 0; k < good.length; k++) {
            Dues.due("when(0, " + good[k] + ")", x.when(0, good[k]), 2 * k + 1);
            Dues.due("cap(0, " + good[k] + ", 1)", x.cap(0, good[k], 1), 2 * k + 2);
            Dues.due("of(when, 6)", x.of(2 * k + 1, 6), good[k]);
            Dues.due("of(cap, 6)", x.of(2 * k + 2, 6), good[k]);
        }
    }

    private static void two() {
        TariffBoxes x = new TariffBoxes();
        x.flat(60);
        x.when(0, 70600);
        x.flat(50);
        x.when(2, 70601);
        for (int kind = -1; kind <= 9; kind++) {
            boolean made = kind == 3 || kind == 4 || kind == 5 || kind == 7;
            if (!made) {
                Dues.due("two(" + kind + ", 0, 0)", x.two(kind, 0, 0), -1);
            }
        }
        Dues.due("two, no one", x.two(3, 4, 0), -1);
        Dues.due("two, no other", x.two(3, 0, 4), -1);
        Dues.due("two, one -1", x.two(3, -1, 0), -1);
        Dues.due("first", x.two(3, 1, 3), 4);
        Dues.due("sum", x.two(4, 1, 3), 5);
        Dues.due("low", x.two(5, 1, 3), 6);
        Dues.due("not", x.two(7, 1, 3), 7);
        Dues.due("not, turned", x.two(7, 3, 1), 8);
        int[][] said = {{60, 50, -5}, {99, 50, -5}, {50, 50, -5}, {-5, -5, -5}, {-5, 50, -5}};
        for (int k = 0; k < said.length; k++) {
            for (int hour = 0; hour < 3; hour++) {
                Dues.due("says(" + (4 + k) + ", " + hour + ")", x.says(4 + k, hour), said[k][hour]);
            }
        }
        Dues.due("first, turned", x.two(3, 3, 1), 9);
        Dues.due("first, turned, says", x.says(9, 0), 50);
        Dues.due("low of itself", x.two(5, 0, 0), 10);
        Dues.due("sum of itself", x.two(4, 2, 2), 11);
        Dues.due("sum of 50 and 50", x.says(11, 0), 99);
        Dues.due("low of 60 and 60", x.says(10, 0), 60);
        Dues.due("not of itself", x.two(7, 0, 0), 12);
        Dues.due("not of itself says", x.says(12, 0), -5);
        x.empty();
        Dues.due("sum with nothing", x.two(4, 1, 13), 14);
        Dues.due("one alone", x.says(14, 0), 60);
        Dues.due("low with nothing", x.two(5, 13, 1), 15);
        Dues.due("other alone", x.says(15, 0), 60);
        Dues.due("not with nothing", x.two(7, 1, 13), 16);
        Dues.due("not with nothing says", x.says(16, 0), 60);
    }

    private static void drop() {
        TariffBoxes x = new TariffBoxes();
        Dues.due("drop of none", x.drop(), -3);
        x.flat(1);
        x.when(0, 70603);
        Dues.due("drop", x.drop(), 1);
        Dues.due("dropped", x.of(1, 0), -1);
        Dues.due("number anew", x.flat(2), 1);
        Dues.due("says anew", x.says(1, 0), 2);
        Dues.due("drop", x.drop(), 1);
        Dues.due("drop", x.drop(), 0);
        Dues.due("drop", x.drop(), -3);
    }

    private static void room() {
        TariffBoxes x = new TariffBoxes();
        for (int k = 0; k < 24; k++) {
            Dues.due("flat " + k, x.flat(k), k);
        }
        Dues.due("flat, no room", x.flat(1), -4);
        Dues.due("bad ahead of full", x.flat(100), -2);
        Dues.due("empty, no room", x.empty(), -4);
        Dues.due("when, no room", x.when(0, 70603), -4);
        Dues.due("when, bad ahead of full", x.when(0, 80603), -2);
        Dues.due("cap, no room", x.cap(0, 70603, 1), -4);
        Dues.due("two, no room", x.two(3, 0, 0), -4);
        Dues.due("two, none ahead of full", x.two(3, 0, 24), -1);
        Dues.due("count", x.count(0), 24);
        Dues.due("read of one there", Dues.tell(x, "#23"), 23);
        Dues.due("read, no room", Dues.tell(x, "5"), -4);
        Dues.due("drop", x.drop(), 23);
        Dues.due("read, room for one", Dues.tell(x, "5"), 23);
        Dues.due("read, no room again", Dues.tell(x, "?070603(#1)"), -4);
    }

    private static void size() {
        TariffBoxes x = new TariffBoxes();
        x.flat(1);
        for (int k = 0; k < 4; k++) {
            x.two(4, k, k);
        }
        Dues.due("size of 1, 3, 7, 15, 31", x.of(4, 4), 31);
        Dues.due("63", x.two(4, 4, 4), -4);
        Dues.due("31 + 7 + 1", x.two(3, 4, 2), 5);
        Dues.due("39", x.of(5, 4), 39);
        Dues.due("40", x.when(5, 70603), 6);
        Dues.due("40", x.of(6, 4), 40);
        Dues.due("40 says", x.says(6, 223), 16);
        Dues.due("40 says as its one", x.says(6, 0), x.says(5, 0));
        Dues.due("40 has one rule", x.rule(6, -1), 1);
        Dues.due("41 by when", x.when(6, 70603), -4);
        Dues.due("41 by cap", x.cap(6, 70603, 1), -4);
        Dues.due("41 by two", x.two(5, 5, 0), -4);
        Dues.due("greatest size", x.count(5), 40);
        Dues.due("depth", x.of(6, 5), 6);
        Dues.due("read of size 41", Dues.tell(x, "?070603(#6)"), -4);
        Dues.due("read of size 40", Dues.tell(x, "?070603(#5)"), 7);
        Dues.due("count", x.count(0), 8);
    }

    private static void tape() {
        TariffBoxes x = new TariffBoxes();
        Dues.due("feed(0)", x.feed(0), -2);
        Dues.due("feed(128)", x.feed(128), -2);
        Dues.due("feed(-1)", x.feed(-1), -2);
        Dues.due("feed(1)", x.feed(1), 1);
        Dues.due("feed(127)", x.feed(127), 2);
        Dues.due("count(2)", x.count(2), 2);
        Dues.due("clear()", x.clear(), 2);
        Dues.due("clear() again", x.clear(), 0);
        for (int k = 1; k <= 60; k++) {
            Dues.due("feed " + k, x.feed(40), k);
        }
        Dues.due("feed, full", x.feed(40), -4);
        Dues.due("feed, bad ahead of full", x.feed(128), -2);
        Dues.due("count(2), full", x.count(2), 60);
        Dues.due("read", x.read(), -100);
        Dues.due("count(2), read", x.count(2), 0);
        Dues.due("feed again", x.feed(55), 1);
        Dues.due("read", x.read(), 0);
        Dues.due("empty behind a read", x.count(2), 0);
    }

    private static void readsEachForm() {
        TariffBoxes x = new TariffBoxes();
        String[] texts = {"0", "99", "-", "?070603(1)", "^131302:45(7)", "/(-,5)", "+(1,2)", "<(1,2)", "!(1,-)"};
        int[] kinds = {0, 0, 1, 2, 6, 3, 4, 5, 7};
        for (int k = 0; k < texts.length; k++) {
            int term = Dues.tell(x, texts[k]);
            Dues.due("kind of " + texts[k], x.of(term, 0), kinds[k]);
            Dues.same("spelling of " + texts[k], Dues.spelled(x, term), texts[k]);
        }
        TariffBoxes y = new TariffBoxes();
        Dues.due("two figures", Dues.tell(y, "07"), 0);
        Dues.due("their fee", y.of(0, 1), 7);
        Dues.due("cap with one figure", Dues.tell(y, "^070603:3(#00)"), 1);
        Dues.due("its fee", y.of(1, 1), 3);
        Dues.due("its box", y.of(1, 6), 70603);
        Dues.due("its one", y.of(1, 2), 0);
        Dues.due("# alone", Dues.tell(y, "#1"), 1);
        Dues.due("# with two figures", Dues.tell(y, "#01"), 1);
        Dues.due("no new one", y.count(0), 2);
    }

    private static void readsInOrder() {
        TariffBoxes x = new TariffBoxes();
        x.flat(42);
        Dues.due("read", Dues.tell(x, "/(?000000(1),+(#0,-))"), 5);
        int[] kinds = {0, 0, 2, 1, 4, 3};
        for (int k = 0; k < kinds.length; k++) {
            Dues.due("kind of " + k, x.of(k, 0), kinds[k]);
        }
        Dues.due("one of first", x.of(5, 2), 2);
        Dues.due("other of first", x.of(5, 3), 4);
        Dues.due("one of sum", x.of(4, 2), 0);
        Dues.due("other of sum", x.of(4, 3), 3);
        Dues.due("size", x.of(5, 4), 6);
        Dues.due("depth", x.of(5, 5), 2);
        Dues.due("one told twice is two terms", Dues.tell(x, "+(1,1)"), 8);
        Dues.due("the one", x.of(8, 2), 6);
        Dues.due("the other one", x.of(8, 3), 7);
    }

    private static void fault(String text, int place, String way) {
        TariffBoxes x = new TariffBoxes();
        x.flat(1);
        x.flat(2);
        Dues.due("read of " + text, Dues.tell(x, text), -100 - place);
        Dues.same("way in " + text, Dues.way(x), way);
        Dues.due("way(count) in " + text, x.way(x.way(-1)), -1);
        Dues.due("way(-2) in " + text, x.way(-2), -1);
        Dues.due("terms behind " + text, x.count(0), 2);
        Dues.due("tape behind " + text, x.count(2), 0);
    }

    private static void faultsOfLetters() {
        fault("", 0, "");
        fault("x", 0, "");
        fault(" 1", 0, "");
        fault("1 ", 1, "");
        fault("123", 2, "");
        fault("-1", 1, "");
        fault("--", 1, "");
        fault(")", 0, "");
        fault("(1)", 0, "");
        fault("/", 1, "0");
        fault("/1", 1, "0");
        fault("/(", 2, "0");
        fault("/()", 2, "0");
        fault("/(1", 3, "0");
        fault("/(1)", 3, "0");
        fault("/(123", 4, "0");
        fault("/(1,", 4, "0");
        fault("/(1,2", 5, "0");
        fault("/(1,2,", 5, "0");
        fault("/(1,2))", 6, "");
        fault("/(1,2)1", 6, "");
        fault("+(<(1,2),!(3,x))", 13, "9 0");
        fault("+(<(1,2),x)", 9, "0");
        fault("+(1,?0706)", 9, "4 0");
        fault("?070603", 7, "0");
        fault("?070603:3(1)", 7, "0");
        fault("?070603(1,2)", 9, "0");
        fault("^070603(1)", 7, "0");
        fault("^070603:(1)", 8, "0");
        fault("^070603:", 8, "0");
        fault("^070603:3", 9, "0");
        fault("^070603:333(1)", 10, "0");
        fault("^070603:3(1,2)", 11, "0");
        fault("1\u0001", 1, "");
        fault("\u007f", 0, "");
    }

    private static void faultsOfBoxes() {
        fault("?8", 1, "0");
        fault("?0", 2, "0");
        fault("?08", 2, "0");
        fault("?54", 2, "0");
        fault("?557", 3, "0");
        fault("?5507", 4, "0");
        fault("?5543", 4, "0");
        fault("?55434", 4, "0");
        fault("?55444", 5, "0");
        fault("?554404", 6, "0");
        fault("?554421", 6, "0");
        fault("?5544221(1)", 7, "0");
        fault("?a", 1, "0");
        fault("?/", 1, "0");
        fault("?:", 1, "0");
        fault("+(1,^076", 8, "4 0");
        fault("+(1,^0707", 8, "4 0");
    }

    private static void faultsOfNumbers() {
        fault("#", 1, "0");
        fault("#x", 1, "0");
        fault("#2", 1, "0");
        fault("#12", 1, "0");
        fault("#24", 1, "0");
        fault("#99x", 1, "0");
        fault("#011", 3, "");
        fault("#1x", 2, "");
        fault("+(#1x", 4, "0");
        fault("+(#9x", 3, "2 0");
        fault("+(1,#2)", 5, "4 0");
        fault("+(1,#3)x", 5, "4 0");
        fault("+(#2,x)", 3, "2 0");
        fault("+(x,#2)", 2, "0");
    }

    private static void faultsOfNesting() {
        fault("/(/(/(/(/(/(/(1", 13, "12 10 8 6 4 2 0");
        fault("/(/(/(/(/(/(/", 13, "12 10 8 6 4 2 0");
        fault("/(/(/(/(/(/(1", 13, "10 8 6 4 2 0");
        fault("/(/(/(/(/(/(#7", 13, "12 10 8 6 4 2 0");
        fault("/(/(/(/(/(/(?070603(1)", 19, "12 10 8 6 4 2 0");
        fault("/(/(/(/(/(1,+(1,?070603(1)", 23, "16 12 8 6 4 2 0");
        TariffBoxes x = new TariffBoxes();
        Dues.due("six within", Dues.tell(x, "/(/(/(/(/(/(1,2),3),4),5),6),7)"), 12);
        Dues.due("its depth", x.of(12, 5), 6);
        TariffBoxes y = new TariffBoxes();
        Dues.due("side by side", Dues.tell(y, "/(/(/(/(/(/(1,2),3),4),5),6),/(1,/(2,3)))"), 16);
    }

    private static void wayStays() {
        TariffBoxes x = new TariffBoxes();
        Dues.tell(x, "+(1,#9)");
        Dues.same("way", Dues.way(x), "4 0");
        Dues.due("a good text", Dues.tell(x, "5"), 0);
        Dues.same("way stays behind it", Dues.way(x), "4 0");
        x.clear();
        x.image();
        x.drop();
        x.undo();
        Dues.same("way stays", Dues.way(x), "4 0");
        Dues.tell(x, "y");
        Dues.same("way of another one", Dues.way(x), "");
        Dues.due("way(-1)", x.way(-1), 0);
        Dues.tell(x, "?(");
        Dues.same("way again", Dues.way(x), "0");
        for (int k = 0; k < 23; k++) {
            x.flat(1);
        }
        Dues.due("full", Dues.tell(x, "+(1,1)"), -4);
        Dues.same("full has no way", Dues.way(x), "0");
    }

    private static void readFull() {
        TariffBoxes x = new TariffBoxes();
        for (int k = 0; k < 22; k++) {
            x.flat(k);
        }
        Dues.due("three new ones", Dues.tell(x, "+(1,2)"), -4);
        Dues.due("none comes", x.count(0), 22);
        Dues.due("a fault is named first", Dues.tell(x, "+(+(1,2),x)"), -109);
        Dues.due("none comes", x.count(0), 22);
        Dues.due("an N of a new one", Dues.tell(x, "+(1,#22)"), -105);
        Dues.due("two new ones", Dues.tell(x, "+(1,#21)"), 23);
        Dues.due("all come", x.count(0), 24);
        TariffBoxes y = new TariffBoxes();
        y.flat(1);
        y.two(4, 0, 0);
        y.two(4, 1, 1);
        y.two(4, 2, 2);
        Dues.due("15 + 15 + 7 + 2", Dues.tell(y, "+(+(#3,#3),#2)"), 5);
        Dues.due("its size", y.of(5, 4), 39);
        Dues.due("within a greater one", Dues.tell(y, "+(/(+(#3,#3),#3),1)"), -4);
        Dues.due("within a greater one, fault", Dues.tell(y, "+(/(+(#3,#3),#3),x)"), -117);
        Dues.due("none comes", y.count(0), 6);
        TariffBoxes z = new TariffBoxes();
        Dues.due("23 from one text", Dues.tell(z, "+(+(+(1,1),+(1,1)),+(+(1,1),+(+(1,1),+(1,+(1,+(1,1))))))"), 22);
        Dues.due("then too many", Dues.tell(z, "+(1,1)"), -4);
        Dues.due("then one", Dues.tell(z, "9"), 23);
    }

    private static void of() {
        TariffBoxes x = new TariffBoxes();
        x.flat(7);
        x.empty();
        x.when(0, 120103);
        x.two(3, 2, 1);
        x.cap(3, 112213, 9);
        x.two(7, 0, 4);
        int[][] due = {
            {0, 7, -5, -5, 1, 0, -5}, {1, -5, -5, -5, 1, 0, -5}, {2, -5, 0, -5, 2, 1, 120103},
            {3, -5, 2, 1, 4, 2, -5}, {6, 9, 3, -5, 5, 3, 112213}, {7, -5, 0, 4, 7, 4, -5}};
        for (int term = 0; term < due.length; term++) {
            for (int what = 0; what < 7; what++) {
                Dues.due("of(" + term + ", " + what + ")", x.of(term, what), due[term][what]);
            }
            Dues.due("of(" + term + ", 7)", x.of(term, 7), -1);
            Dues.due("of(" + term + ", -1)", x.of(term, -1), -1);
        }
        Dues.due("of(6, 0)", x.of(6, 0), -1);
        Dues.due("of(-1, 0)", x.of(-1, 0), -1);
        Dues.due("of(MAX, 0)", x.of(Integer.MAX_VALUE, 0), -1);
    }

    private static void taken() {
        TariffBoxes x = new TariffBoxes();
        x.flat(7);
        x.empty();
        x.when(0, 120103);
        x.two(3, 2, 1);
        x.two(4, 2, 1);
        x.two(5, 2, 1);
        x.cap(3, 112213, 9);
        x.two(7, 0, 4);
        int[] sizes = {1, 1, 2, 4, 4, 4, 5, 6};
        for (int term = 0; term < 8; term++) {
            for (int k = 0; k < 8; k++) {
                boolean fine = term == k || term == 6 && k == 2 || term == 7 && k == 3;
                Dues.due("taken(" + term + ", " + k + ")", x.taken(term, k), fine ? sizes[term] : -12);
            }
            Dues.due("taken(" + term + ", 8)", x.taken(term, 8), -1);
            Dues.due("taken(" + term + ", -1)", x.taken(term, -1), -1);
        }
        Dues.due("taken(8, 0)", x.taken(8, 0), -1);
        Dues.due("taken(-1, 0)", x.taken(-1, 0), -1);
    }

    private static void spell() {
        TariffBoxes x = new TariffBoxes();
        x.flat(7);
        Dues.due("spell of none", x.spell(1), -1);
        Dues.due("spell of -1", x.spell(-1), -1);
        Dues.same("flat", Dues.spelled(x, 0), "7");
        Dues.due("spell of none leaves the paper", x.spell(1), -1);
        Dues.due("count(3)", x.count(3), 1);
        Dues.due("paper(0)", x.paper(0), '7');
        Dues.due("paper(1)", x.paper(1), -1);
        Dues.due("paper(-1)", x.paper(-1), -1);
        x.when(0, 102);
        x.cap(1, 70603, 10);
        Dues.tell(x, "<(!(#1,#2),/(0,-))");
        Dues.same("no #", Dues.spelled(x, 7), "<(!(?000102(7),^070603:10(?000102(7))),/(0,-))");
        Dues.due("count(3)", x.count(3), 46);
        Dues.same("shorter", Dues.spelled(x, 4), "0");
        Dues.due("the rest is gone", x.paper(1), -1);
        Dues.due("sum", x.two(4, 1, 1), 8);
        Dues.same("twice", Dues.spelled(x, 8), "+(?000102(7),?000102(7))");
        x.drop();
        Dues.same("drop leaves the paper", "" + x.count(3), "24");
        TariffBoxes y = new TariffBoxes();
        y.flat(99);
        StringBuilder longest = new StringBuilder("99");
        for (int k = 0; k < 23; k++) {
            y.cap(k, 70603, 98);
            longest.insert(0, "^070603:98(").append(')');
        }
        Dues.same("deepest", Dues.spelled(y, 23), longest.toString());
        TariffBoxes z = new TariffBoxes();
        z.flat(99);
        for (int k = 0; k < 18; k++) {
            z.cap(k, 70603, 98);
        }
        z.two(4, 18, 18);
        Dues.due("longest", z.spell(19), 440);
        Dues.due("its last byte", z.paper(439), ')');
        Dues.due("behind it", z.paper(440), -1);
    }
}
