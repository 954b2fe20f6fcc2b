/** Promises 25 to 28: other fees, what was paid, which fees fit, tills. */
public final class WouldBeTest {
    public static void main(String[] args) {
        would();
        paid();
        fits();
        fitsOfMore();
        till();
        tillBySeeds();
        Dues.end("WouldBeTest");
    }

    private static void would() {
        TariffBoxes x = new TariffBoxes();
        x.flat(10);
        x.flat(20);
        x.when(0, 70600);
        x.two(4, 2, 0);
        x.two(3, 3, 1);
        x.cap(4, 70600, 15);
        Dues.due("twice in it", x.would(0, 30, 3, 0), 60);
        Dues.due("once there", x.would(0, 30, 3, 1), 30);
        Dues.due("another one", x.would(1, 30, 3, 0), 20);
        Dues.due("not in it", x.would(1, 30, 2, 0), 10);
        Dues.due("nothing", x.would(0, 30, 2, 1), -5);
        Dues.due("99 at most", x.would(0, 60, 3, 0), 99);
        Dues.due("0", x.would(0, 0, 3, 0), 0);
        Dues.due("99", x.would(0, 99, 0, 223), 99);
        Dues.due("capped", x.would(0, 50, 5, 0), 15);
        Dues.due("itself", x.would(1, 3, 1, 0), 3);
        Dues.due("changes nothing", x.says(0, 0), 10);
        Dues.due("changes nothing", x.of(0, 1), 10);
        Dues.due("of a cap", x.would(5, 30, 3, 0), -1);
        Dues.due("of a when", x.would(2, 30, 3, 0), -1);
        Dues.due("of no term", x.would(6, 30, 3, 0), -1);
        Dues.due("of -1", x.would(-1, 30, 3, 0), -1);
        Dues.due("no term", x.would(0, 30, 6, 0), -1);
        Dues.due("no case", x.would(0, 30, 3, 224), -1);
        Dues.due("case -1", x.would(0, 30, 3, -1), -1);
        Dues.due("v 100", x.would(0, 100, 3, 0), -2);
        Dues.due("v -1", x.would(0, -1, 3, 0), -2);
        Dues.due("none ahead of bad", x.would(0, 100, 3, 224), -1);
    }

    private static void paid() {
        TariffBoxes x = new TariffBoxes();
        Dues.due("none yet", x.paid(-1, 5), 0);
        Dues.due("case -2", x.paid(-2, 5), -1);
        Dues.due("case 224", x.paid(224, 100), -1);
        Dues.due("fee 100", x.paid(0, 100), -2);
        Dues.due("fee -2", x.paid(0, -2), -2);
        Dues.due("count", x.count(1), 0);
        for (int k = 1; k <= 8; k++) {
            Dues.due("paid " + k, x.paid(223, k == 1 ? -1 : 91 + k), k);
        }
        Dues.due("full", x.paid(1, 1), -4);
        Dues.due("bad ahead of full", x.paid(1, 100), -2);
        Dues.due("none ahead of full", x.paid(224, 1), -1);
        Dues.due("count", x.count(1), 8);
        Dues.due("none then", x.paid(-1, 1000), 0);
        Dues.due("count", x.count(1), 0);
        Dues.due("again", x.paid(0, 0), 1);
    }

    private static void fits() {
        TariffBoxes x = new TariffBoxes();
        x.flat(10);
        x.flat(20);
        x.when(0, 70600);
        x.two(4, 2, 1);
        Dues.due("nothing paid", x.fits(0, 3, 0), 100);
        Dues.due("nothing paid, least", x.fits(0, 3, 1), 0);
        x.paid(0, 50);
        Dues.due("one", x.fits(0, 3, 0), 1);
        Dues.due("30 and 20", x.fits(0, 3, 1), 30);
        Dues.due("10 and 40", x.fits(1, 3, 1), 40);
        x.paid(1, 20);
        Dues.due("the other case too", x.fits(0, 3, 1), 30);
        Dues.due("not for the other one", x.fits(1, 3, 0), 0);
        Dues.due("not for the other one, least", x.fits(1, 3, 1), -5);
        x.paid(0, 51);
        Dues.due("two fees for a case", x.fits(0, 3, 0), 0);
        Dues.due("of another kind", x.fits(2, 3, 0), -1);
        Dues.due("no flat", x.fits(4, 3, 0), -1);
        Dues.due("flat -1", x.fits(-1, 3, 0), -1);
        Dues.due("no term", x.fits(0, 4, 0), -1);
        Dues.due("what 2", x.fits(0, 3, 2), -1);
        Dues.due("what -1", x.fits(0, 3, -1), -1);
        Dues.due("changes nothing", x.says(3, 0), 30);
    }

    private static void fitsOfMore() {
        TariffBoxes x = new TariffBoxes();
        x.flat(10);
        x.flat(20);
        x.when(0, 70600);
        x.two(4, 2, 1);
        x.paid(0, 99);
        Dues.due("99 at most", x.fits(0, 3, 0), 21);
        Dues.due("the least", x.fits(0, 3, 1), 79);
        x.paid(-1, 0);
        x.paid(1, -1);
        Dues.due("nothing is said", x.fits(0, 2, 0), 100);
        Dues.due("something is said", x.fits(0, 3, 0), 0);
        x.paid(2, 0);
        Dues.due("0 is not nothing", x.fits(0, 2, 0), 0);
        x.paid(-1, 0);
        x.paid(5, 20);
        Dues.due("not in it, says so", x.fits(0, 1, 0), 100);
        x.paid(5, 21);
        Dues.due("not in it, says otherwise", x.fits(0, 1, 0), 0);
        x.two(7, 3, 2);
        x.paid(-1, 0);
        x.paid(0, -1);
        x.paid(1, 99);
        Dues.due("99 alone", x.fits(1, 4, 0), 1);
        Dues.due("99 alone, least", x.fits(1, 4, 1), 99);
    }

    private static void till() {
        TariffBoxes x = new TariffBoxes();
        x.flat(3);
        x.empty();
        x.flat(0);
        Dues.due("no term", x.till(3, 1, 41, 0), -1);
        Dues.due("what 3", x.till(0, 1, 41, 3), -1);
        Dues.due("what -1", x.till(0, 1, 1, -1), -1);
        Dues.due("n 0", x.till(0, 1, 0, 0), -2);
        Dues.due("n 41", x.till(0, 1, 41, 2), -2);
        Dues.due("n -1", x.till(0, 1, -1, 0), -2);
        Dues.due("n 1", x.till(0, 1, 1, 0), 3);
        Dues.due("n 40", x.till(0, 1, 40, 0), 120);
        Dues.due("of nothing, all", x.till(1, 1, 40, 0), 0);
        Dues.due("of nothing, silent", x.till(1, 1, 40, 1), 40);
        Dues.due("of nothing, greatest", x.till(1, 1, 40, 2), -5);
        Dues.due("of 0, silent", x.till(2, 1, 40, 1), 0);
        Dues.due("of 0, greatest", x.till(2, 1, 40, 2), 0);
    }

    /** A term of a box for each case, which tells where the draws fall. */
    private static void tillBySeeds() {
        int[] seeds = {0, 1, -1, Integer.MIN_VALUE, Integer.MAX_VALUE, 99};
        int[][] draws = {
            {19, 41, 118, 211, 165, 38}, {25, 165, 161, 90, 141, 65}, {13, 140, 44, 107, 156, 43},
            {19, 41, 118, 211, 165, 38}, {13, 140, 44, 107, 156, 43}, {170, 158, 46, 160, 160, 220}};
        for (int k = 0; k < seeds.length; k++) {
            TariffBoxes x = new TariffBoxes();
            x.flat(7);
            for (int n = 1; n <= 6; n++) {
                int one = draws[k][n - 1];
                int term = x.when(0, 110000 * (one / 28) + 1100 * (one / 4 % 7) + 11 * (one % 4));
                int times = 0;
                for (int d = 0; d < n; d++) {
                    times += draws[k][d] == one ? 1 : 0;
                }
                String call = "till by " + seeds[k] + " of " + n;
                Dues.due(call, x.till(term, seeds[k], n, 0), 7 * times);
                Dues.due(call + ", silent", x.till(term, seeds[k], n, 1), n - times);
                Dues.due(call + ", greatest", x.till(term, seeds[k], n, 2), 7);
                int before = times > 1 ? 7 : -5;
                Dues.due(call + " less 1", n == 1 ? -5 : x.till(term, seeds[k], n - 1, 2), before);
            }
        }
    }
}
