/**
 * The bounds that the document names of texts (THE TAPE, FAULT, THE WAY; promise 10):
 * each place of each form where a text can end or go wrong, numbers of one figure or
 * two, TERMS that are there or not, ( within others, room, SIZE, and what stays.
 */
public final class TextBoundsTest {
    private static final String[] FORMS = {"?070603(7)", "^131302:45(-)", "/(1,-)", "+(99,0)", "<(-,-)", "!(07,7)",
        "/(?000102(7),^070603:10(+(1,!(2,-))))", "<(/(+(1,2),3),!(4,^776633:0(5)))"};
    private static final String[] SIGNS = {"?070603", "^070603:9", "/", "+", "<", "!"};

    public static void main(String[] args) {
        formsAreTaken();
        formsAsByCalls();
        endsTooEarly();
        strangeBytes();
        longestTexts();
        numbersOfTwoFigures();
        namesOfTerms();
        namesOfTermsThatWere();
        namesOfNewTerms();
        within();
        withinTheOther();
        roomForAll();
        sizesOfNewOnes();
        faultAheadOfFull();
        whatStays();
        Dues.end("TextBoundsTest");
    }

    private static void fault(TariffBoxes x, String text, int place, String way) {
        int terms = x.count(0);
        Dues.due("read of " + text, Dues.tell(x, text), -100 - place);
        Dues.same("way in " + text, Dues.way(x), way);
        Dues.due("terms behind " + text, x.count(0), terms);
        Dues.due("tape behind " + text, x.count(2), 0);
    }

    private static void fault(String text, int place, String way) {
        fault(States.flats(1), text, place, way);
    }

    /** Where the E began that are open behind a text without #, the innermost first. */
    private static String open(String text) {
        String way = "";
        for (int k = 0; k < text.length(); k++) {
            if ("?^/+<!".indexOf(text.charAt(k)) >= 0) {
                way = way.isEmpty() ? "" + k : k + " " + way;
            } else if (text.charAt(k) == ')') {
                way = way.indexOf(' ') < 0 ? "" : way.substring(way.indexOf(' ') + 1);
            }
        }
        return way;
    }

    private static void formsAreTaken() {
        for (String text : FORMS) {
            TariffBoxes x = new TariffBoxes();
            int term = Dues.tell(x, text);
            Dues.due("the last one of " + text, term, x.count(0) - 1);
            Dues.same("as it was told", Dues.spelled(x, term), text.replace("07,", "7,"));
            Dues.due("the tape is empty", x.count(2), 0);
        }
    }

    /** A TERM of each KIND from a text has what it has and lacks what it lacks. */
    private static void formsAsByCalls() {
        TariffBoxes x = States.some();
        x.clear();
        String[] texts = {"7", "-", "?131302(#0)", "^242413:5(#0)", "/(#2,#1)", "!(#0,#2)", "+(#2,#0)", "<(#3,#2)"};
        for (int term = 0; term < texts.length; term++) {
            Dues.due("the number of " + texts[term], Dues.tell(x, texts[term]), 8 + term);
            for (int what = 0; what < 7; what++) {
                Dues.due(texts[term] + ", what " + what, x.of(8 + term, what), x.of(term, what));
            }
        }
    }

    private static void endsTooEarly() {
        for (String text : FORMS) {
            for (int k = 0; k < text.length(); k++) {
                String start = text.substring(0, k);
                fault(start, k, open(start));
            }
        }
    }

    /** No byte here goes on at any place of a form, nor does a blank, nor one at the edges of a byte. */
    private static void strangeBytes() {
        for (String text : FORMS) {
            for (int k = 0; k <= text.length(); k++) {
                String start = text.substring(0, k);
                for (String strange : new String[] {"x", " ", "\u0001", "\u007f", ".", ";"}) {
                    fault(start + strange, k, open(start));
                    fault(start + strange + text.substring(k), k, open(start));
                }
            }
        }
    }

    /** Texts of all 60 bytes, with a FAULT at the last one, and behind it. */
    private static void longestTexts() {
        String first = "+(" + States.SIXTY.substring(8, 59) + ",";
        fault(first + "^07060", 60, "54 0");
        fault(first + "^0706x", 59, "54 0");
        fault(first + "^07064", 59, "54 0");
        fault(first + "#00000", 57, "0");
        fault(first + "#1    ", 55, "54 0");
        fault(first + "-)    ", 56, "");
        fault(first + "12345)", 56, "0");
        fault(States.SIXTY.substring(0, 59) + ",", 59, "0");
        TariffBoxes x = new TariffBoxes();
        Dues.feed(x, States.SIXTY + "x");
        Dues.due("the 61st byte is none of the text", x.read(), 6);
    }

    private static void numbersOfTwoFigures() {
        for (int fee = 0; fee <= 99; fee++) {
            TariffBoxes x = new TariffBoxes();
            Dues.due("a flat one of " + fee, Dues.tell(x, "" + fee), 0);
            Dues.due("its fee", x.of(0, 1), fee);
            Dues.due("a cap of " + fee, Dues.tell(x, "^000000:" + fee + "(#0)"), 1);
            Dues.due("its fee", x.of(1, 1), fee);
        }
        TariffBoxes x = new TariffBoxes();
        Dues.tell(x, "00");
        Dues.due("00", x.of(0, 1), 0);
        Dues.tell(x, "09");
        Dues.due("09", x.of(1, 1), 9);
        fault("000", 2, "");
        fault("100", 2, "");
        fault("+(100,1)", 4, "0");
        fault("+(1,100)", 6, "0");
        fault("^000000:100(1)", 10, "0");
        fault("#000", 3, "");
        fault("-1", 1, "");
        fault("+(-1,1)", 3, "0");
        fault("^000000:-(1)", 8, "0");
        fault("#-", 1, "0");
        besideTheFigures();
    }

    /** The bytes right below 0 and right above 9 are no figures. */
    private static void besideTheFigures() {
        for (String beside : new String[] {"/", ":"}) {
            fault("0" + beside, 1, "");
            fault("12" + beside, 2, "");
            fault("+(1" + beside, 3, "0");
            fault("#" + beside, 1, "0");
            fault("#0" + beside, 2, "");
            fault("^000000:" + beside, 8, "0");
            fault("^000000:1" + beside, 9, "0");
            for (int k = 1; k <= 6; k++) {
                fault("?000000".substring(0, k) + beside, k, "0");
            }
        }
        fault(":", 0, "");
    }

    private static void namesOfTerms() {
        for (int many : new int[] {0, 1, 9, 10, 11, 24}) {
            TariffBoxes x = States.flats(many);
            if (many > 0) {
                Dues.due("the first of " + many, Dues.tell(x, "#0"), 0);
                Dues.due("the last of " + many, Dues.tell(x, "#" + (many - 1)), many - 1);
                Dues.due("no new one", x.count(0), many);
            }
            fault(x, "#" + many, 1, "0");
            fault(x, "#99", 1, "0");
            fault(x, "+(#" + many + ",1)", 3, "2 0");
            fault(x, "+(1,#" + many + ")", 5, "4 0");
            fault(x, "?000000(#" + many, 9, "8 0");
            fault(x, "#", 1, "0");
        }
        // both figures are the N's, though one alone would be there
        fault(States.flats(2), "#12", 1, "0");
        fault(States.flats(9), "+(#09,1)", 3, "2 0");
        // a whole E with a byte too many behind it
        fault(States.flats(2), "#1(", 2, "");
        fault(States.flats(2), "#1)", 2, "");
        fault(States.flats(2), "#1#1", 2, "");
    }

    /** A TERM that was dropped, or came behind THE IMAGE that all is as again, is not there. */
    private static void namesOfTermsThatWere() {
        TariffBoxes x = States.flats(3);
        x.drop();
        fault(x, "#2", 1, "0");
        x.image();
        x.flat(7);
        Dues.due("another one of that number", Dues.tell(x, "#2"), 2);
        x.undo();
        fault(x, "+(#1,#2)", 6, "5 0");
        Dues.due("told and refused before", Dues.tell(x, "+(1,x)"), -104);
        fault(x, "#2", 1, "0");
    }

    private static void namesOfNewTerms() {
        fault(States.flats(0), "+(1,#0)", 5, "4 0");
        fault(States.flats(3), "+(1,#3)", 5, "4 0");
        fault(States.flats(3), "+(+(1,2),#4)", 10, "9 0");
        TariffBoxes x = States.flats(3);
        Dues.due("one that was there", Dues.tell(x, "+(1,#2)"), 4);
        Dues.due("a new one before", Dues.tell(x, "+(1,#4)"), 6);
        Dues.due("# alone", Dues.tell(x, "#6"), 6);
        Dues.due("twice the same", Dues.tell(x, "+(#6,#6)"), 7);
        Dues.due("the one", x.of(7, 2), 6);
        Dues.due("the other one", x.of(7, 3), 6);
    }

    private static void within() {
        String six = "/(/(/(/(/(/(";
        TariffBoxes x = new TariffBoxes();
        Dues.due("within 5 others", Dues.tell(x, "/(/(/(/(/(/(1,2),3),4),5),6),7)"), 12);
        Dues.due("its depth", x.of(12, 5), 6);
        fault("/(/(/(/(/(/(1,2),3),4),5),6),7", 30, "0");
        for (String sign : SIGNS) {
            int place = 12 + sign.length();
            fault(six + sign, place, "12 10 8 6 4 2 0");
            fault(six + sign + "(", place, "12 10 8 6 4 2 0");
            fault(six + sign + "(1)", place, "12 10 8 6 4 2 0");
            TariffBoxes y = new TariffBoxes();
            boolean boxed = sign.length() > 1;
            String rest = boxed ? "(1),1),1),1),1),1)" : "(1,1),1),1),1),1),1)";
            Dues.due("within 5 others: " + sign, Dues.tell(y, "/(/(/(/(/(" + sign + rest), boxed ? 11 : 12);
        }
        fault("/(/(/(/(/(/(#1(", 13, "12 10 8 6 4 2 0");
        fault(States.flats(2), "/(/(/(/(/(/(#1(", 14, "10 8 6 4 2 0");
        fault("/(/(/(/(/(/(((", 12, "10 8 6 4 2 0");
    }

    /** Those that have ended are none of the six. */
    private static void withinTheOther() {
        TariffBoxes x = new TariffBoxes();
        Dues.due("in the other one", Dues.tell(x, "/(1,/(1,/(1,/(1,/(1,/(1,1))))))"), 12);
        fault("/(1,/(1,/(1,/(1,/(1,/(1,/(1,1)))))))", 25, "24 20 16 12 8 4 0");
        TariffBoxes y = new TariffBoxes();
        Dues.due("side by side", Dues.tell(y, "+(+(+(1,1),+(1,1)),+(+(1,1),+(1,1)))"), 14);
        fault("+(+(+(1,1),+(1,1)),+(+(1,1),+(1,/(/(/(/(1", 39, "38 36 34 32 28 19 0");
    }

    private static void roomForAll() {
        String[] texts = {"1", "-", "?070603(1)", "+(1,2)", "+(-,+(1,2))", "?070603(#0)"};
        int[] news = {1, 1, 2, 3, 5, 1};
        for (int k = 0; k < texts.length; k++) {
            String text = texts[k];
            int many = 24 - news[k];
            Dues.due("just room for " + text, Dues.tell(States.flats(many), text), 23);
            Sight.alike("no room for " + text, () -> States.flats(many + 1), x -> noRoom(x, text), x -> 0);
        }
        Dues.due("full: # alone", Dues.tell(States.flats(24), "#23"), 23);
        TariffBoxes x = new TariffBoxes();
        String most = "+(+(+(1,1),+(1,1)),+(+(1,1),+(+(1,1),+(1,+(1,+(1,1))))))";
        Dues.due("23 of one text", Dues.tell(x, most), 22);
        Dues.due("the last one has all", x.of(22, 4), 23);
    }

    private static int noRoom(TariffBoxes x, String text) {
        int answer = Dues.tell(x, text);
        Dues.due("no room for " + text, answer, -4);
        Dues.due("the tape behind it", x.count(2), 0);
        return answer;
    }

    private static void sizesOfNewOnes() {
        String[] forty = {"?070603(#5)", "^070603:1(#5)", "+(#4,?070603(#2))", "<(?070603(#2),#4)", "!(1,?070603(+(#4,#1)))"};
        int[] due = {40, 40, 40, 40, 38};
        for (int k = 0; k < forty.length; k++) {
            TariffBoxes x = States.sizes();
            int term = Dues.tell(x, forty[k]);
            Dues.due("the size of " + forty[k], x.of(term, 4), due[k]);
        }
        String[] more = {"?070603(#6)", "^070603:1(#6)", "+(#5,1)", "+(1,#5)", "<(#4,+(#2,1))", "!(#4,#4)",
            "/(?070603(#6),1)", "+(1,?070603(#6))"};
        for (String text : more) {
            Sight.alike("too great by " + text, States::sizes, x -> noRoom(x, text), x -> 0);
        }
    }

    private static void faultAheadOfFull() {
        fault(States.flats(24), "1x", 1, "");
        fault(States.flats(24), "+(1,2", 5, "0");
        fault(States.flats(23), "+(1,#23)", 5, "4 0");
        fault(States.flats(24), "+(1,#24)", 5, "4 0");
        fault(States.flats(23), "+(+(1,2),?8", 10, "9 0");
        fault(States.sizes(), "?070603(#6)x", 11, "");
        fault(States.sizes(), "+(?070603(#6),#7)", 15, "14 0");
        fault(States.sizes(), "+(?070603(#6),", 14, "0");
    }

    /** What is refused brings no TERM, and leaves all but THE TAPE and THE WAY. */
    private static void whatStays() {
        Sight.alike("a fault behind new ones", States::some, x -> x.clear() + Dues.tell(x, "+(+(1,2),x)"),
            x -> x.clear() + Dues.tell(x, "+("));
        Sight.alike("a fault of a name", States::some, x -> x.clear() + Dues.tell(x, "+(1,#8)"),
            x -> x.clear() + Dues.tell(x, "+(1,?"));
        Sight.alike("the empty text", States::some, x -> x.clear() + x.read(), x -> x.clear() + Dues.tell(x, "x"));
        Sight.alike("no room", States::full, TariffBoxes::read, TariffBoxes::clear);
        Sight.alike("# alone", States::some, x -> x.clear() + Dues.tell(x, "#7"), TariffBoxes::clear);
        TariffBoxes x = States.some();
        Dues.feed(x, ")");
        Dues.due("a good text", x.read(), 10);
        Dues.due("empty behind it", x.read(), -100);
        Dues.due("the paper stays", x.count(3), 15);
        Dues.due("paid stays", x.count(1), 2);
        Dues.due("the image stays", x.undo(), 3);
    }
}
