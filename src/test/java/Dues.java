/** Counts the answers that are not due, and speaks to a TariffBoxes in texts. */
final class Dues {
    private static int asked = 0;
    private static int wrong = 0;

    private Dues() {
    }

    static void due(String call, long got, long want) {
        asked++;
        if (got != want) {
            wrong++;
            System.out.println(call + " answered " + got + ", due is " + want);
        }
    }

    static void same(String call, String got, String want) {
        asked++;
        if (!got.equals(want)) {
            wrong++;
            System.out.println(call + " answered " + got + ", due is " + want);
        }
    }

    /** Feeds a text and leaves it on the tape. */
    static void feed(TariffBoxes x, String text) {
        for (int k = 0; k < text.length(); k++) {
            x.feed(text.charAt(k));
        }
    }

    /** Feeds a text and reads it. */
    static int tell(TariffBoxes x, String text) {
        feed(x, text);
        return x.read();
    }

    static String spelled(TariffBoxes x, int term) {
        int length = x.spell(term);
        StringBuilder text = new StringBuilder();
        for (int i = 0; i < length; i++) {
            text.append((char) x.paper(i));
        }
        return text.toString();
    }

    /** The way to the latest fault, as a text of numbers. */
    static String way(TariffBoxes x) {
        StringBuilder text = new StringBuilder();
        int many = x.way(-1);
        for (int k = 0; k < many; k++) {
            text.append(k == 0 ? "" : " ").append(x.way(k));
        }
        return text.toString();
    }

    /** What a term says of every third case, as a text: an object is good for 512 calls. */
    static String muchSaid(TariffBoxes x, int term) {
        StringBuilder text = new StringBuilder();
        for (int one = 0; one < 224; one += 3) {
            text.append(x.says(term, one)).append(' ');
        }
        return text.toString();
    }

    static int caseOf(int age, int day, int hour) {
        return 28 * age + 4 * day + hour;
    }

    /** Ends the test: with exit code 1 if an answer was not due. */
    static void end(String name) {
        System.out.println(name + ": " + asked + " answers asked, " + wrong + " not as due");
        if (wrong != 0 || asked == 0) {
            System.exit(1);
        }
    }
}
