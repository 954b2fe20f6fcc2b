/** Objects as tests want them at first: new, with some of everything, with all that has room. */
final class States {
    /** A text of as many bytes as THE TAPE holds, of seven new TERMS. */
    static final String SIXTY = "?070603(?070503(^070403:9(?070303(^070203:8(?070103(12))))))";

    private States() {
    }

    static TariffBoxes bare() {
        return new TariffBoxes();
    }

    /** TERMS of all KINDS by their numbers' order 0, 1, 2, 6, 3, 7, 4, 5, and some of all the rest. */
    static TariffBoxes some() {
        TariffBoxes x = new TariffBoxes();
        x.flat(7);
        x.empty();
        x.when(0, 131302);
        x.paid(45, -1);
        x.image();
        x.cap(0, 242413, 5);
        x.two(3, 2, 1);
        x.two(7, 0, 2);
        x.two(4, 2, 0);
        x.two(5, 3, 2);
        x.paid(32, 7);
        x.rack(0, 9);
        x.put(0, 8, -3);
        x.rack(1, 0);
        x.rack(2, 7);
        x.lay(2, 2, 0);
        Dues.tell(x, "+(1,#24)");
        x.spell(4);
        Dues.feed(x, "+(12,34");
        return x;
    }

    /** 24 TERMS, the one of number 7 of SIZE 40; 8 in PAID; 60 bytes on THE TAPE. */
    static TariffBoxes full() {
        TariffBoxes x = new TariffBoxes();
        x.flat(7);
        x.when(0, 70602);
        x.image();
        for (int k = 0; k < 8; k++) {
            x.paid(4 * k, 7);
        }
        x.two(5, 0, 0);
        x.two(5, 2, 2);
        x.two(5, 3, 3);
        x.two(5, 4, 4);
        x.two(3, 5, 3);
        x.when(6, 70602);
        for (int k = 8; k < 24; k++) {
            x.flat(k);
        }
        x.rack(3, 2);
        Dues.tell(x, "?8");
        x.spell(1);
        Dues.feed(x, SIXTY);
        return x;
    }

    /** So many TERMS: the FLAT ones of the FEES 0, 1 and so on. */
    static TariffBoxes flats(int many) {
        TariffBoxes x = new TariffBoxes();
        for (int k = 0; k < many; k++) {
            x.flat(k);
        }
        return x;
    }

    /** TERMS of the SIZES 1, 3, 7, 15, 31, 39, 40: the numbers 0 to 6. */
    static TariffBoxes sizes() {
        TariffBoxes x = new TariffBoxes();
        x.flat(1);
        for (int k = 0; k < 4; k++) {
            x.two(4, k, k);
        }
        x.two(3, 4, 2);
        x.when(5, 70603);
        return x;
    }

    /**
     * Of each CASE the FEE 1 for an odd AGE, 2 more for an odd DAY, 4 more for an odd
     * HOUR: no two CASES side by side are alike. It is the last of the TERMS.
     */
    static TariffBoxes odd(int kind) {
        TariffBoxes x = new TariffBoxes();
        x.flat(1);
        x.flat(2);
        x.flat(4);
        x.flat(0);
        int whole = kind == 4 ? 3 : -1;
        int[] fees = {0, 0, 0, 0, 1, 1, 1, 2, 2};
        int[] boxes = {110603, 330603, 550603, 770603, 71103, 73303, 75503, 70611, 70633};
        for (int k = 0; k < boxes.length; k++) {
            int rule = x.when(fees[k], boxes[k]);
            whole = whole < 0 ? rule : x.two(kind, whole, rule);
        }
        return x;
    }
}
