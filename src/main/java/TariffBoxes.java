/**
 * Tariffs as terms nested in one another, and what they say of each case.
 *
 * The words in capitals are the document's. Every row is made in a constructor
 * and used again by each call, since all calls of a run share one small room.
 */
public final class TariffBoxes {
    public static final int NONE = -1, BAD = -2, STATE = -3, FULL = -4, NOT = -5;
    public static final long NO = Long.MIN_VALUE;

    private static final int NOTHING = -11, CAST = -12, BEYOND = -13, BELOW = -14;

    /** KINDS; EXCEPT is the document's KIND NOT, a name that an answer has here. */
    private static final int FLAT = 0, VOID = 1, WHEN = 2, FIRST = 3, SUM = 4, LOW = 5, CAP = 6, EXCEPT = 7;
    private static final int KINDS = 8;

    private static final int LAST_AGE = 7, LAST_DAY = 6, LAST_HOUR = 3;
    private static final int DAYS = 7, HOURS = 4, CASES = 224;
    private static final int FIGURES = 6, PART_NUMBERS = 7, FEE_PLACE = 6;

    private static final int MOST_FEE = 99, MOST_TERMS = 24, MOST_SIZE = 40, MOST_PAID = 8, MOST_DRAWS = 40;
    private static final int MOST_TAPE = 60, MOST_WITHIN = 6, MOST_RACKS = 4, MOST_PLACES = 70;
    /** Of SIZE 40 the longest text is of 39 CAPS with 12 bytes each and a FEE of two. */
    private static final int MOST_PAPER = 470;
    /** All bits of an int but its sign's. */
    private static final int NO_SIGN = 0x7fffffff;

    private final Terms terms = new Terms();
    private final Paid receipts = new Paid();
    private final Terms imageTerms = new Terms();
    private final Paid imageReceipts = new Paid();
    private boolean imaged = false;
    private final Tree tree = new Tree(terms);
    private final Boxes boxes = new Boxes();
    private final Tape tape = new Tape(terms);
    private final Paper sheet = new Paper(terms);
    private final Racks racks = new Racks();

    public TariffBoxes() {
    }

    // ---- terms

    public int flat(int fee) {
        if (!isFee(fee)) {
            return BAD;
        }
        return terms.add(FLAT, fee, NOT, NOT, NOT);
    }

    public int empty() {
        return terms.add(VOID, NOT, NOT, NOT, NOT);
    }

    public int when(int one, int box) {
        if (!terms.has(one)) {
            return NONE;
        }
        if (!isBox(box)) {
            return BAD;
        }
        return terms.add(WHEN, NOT, box, one, NOT);
    }

    public int cap(int one, int box, int fee) {
        if (!terms.has(one)) {
            return NONE;
        }
        if (!isBox(box) || !isFee(fee)) {
            return BAD;
        }
        return terms.add(CAP, fee, box, one, NOT);
    }

    public int two(int kind, int one, int other) {
        if (!isOfTwo(kind) || !terms.has(one) || !terms.has(other)) {
            return NONE;
        }
        return terms.add(kind, NOT, NOT, one, other);
    }

    public int drop() {
        if (terms.count == 0) {
            return STATE;
        }
        terms.cutTo(terms.count - 1);
        return terms.count;
    }

    public int feed(int letter) {
        if (letter < 1 || letter > 127) {
            return BAD;
        }
        return tape.append(letter);
    }

    public int clear() {
        return tape.wipe();
    }

    public int read() {
        return tape.readAll();
    }

    public int way(int k) {
        if (k == -1) {
            return tape.wayLength;
        }
        return k >= 0 && k < tape.wayLength ? tape.way[k] : NONE;
    }

    public int of(int term, int what) {
        if (!terms.has(term)) {
            return NONE;
        }
        switch (what) {
            case 0: return terms.kind[term];
            case 1: return terms.fee[term];
            case 2: return terms.one[term];
            case 3: return terms.other[term];
            case 4: return terms.size[term];
            case 5: return terms.depth[term];
            case 6: return terms.box[term];
            default: return NONE;
        }
    }

    public int taken(int term, int k) {
        if (!terms.has(term) || k < 0 || k >= KINDS) {
            return NONE;
        }
        int kind = terms.kind[term];
        return kind == k || kindAbove(kind) == k ? terms.size[term] : CAST;
    }

    public int spell(int term) {
        if (!terms.has(term)) {
            return NONE;
        }
        return sheet.write(term);
    }

    public int paper(int i) {
        return i >= 0 && i < sheet.length ? sheet.bytes[i] : NONE;
    }

    // ---- what is said

    public int says(int term, int one) {
        if (!terms.has(term) || !isCase(one)) {
            return NONE;
        }
        tree.unfold(term);
        return tree.answer(one);
    }

    public int sum(int term, int what) {
        if (!terms.has(term) || what < 0 || what > 1) {
            return NONE;
        }
        return what == 0 ? earned(term) : covered(term);
    }

    public long odds(int term, int part) {
        if (!terms.has(term) || part < 0 || part > 1) {
            return NO;
        }
        int covers = covered(term);
        return inLowestTerms(part == 0 ? covers : CASES, covers);
    }

    public int part(int term, int i, int what) {
        if (!terms.has(term)) {
            return NONE;
        }
        boxFees(term);
        if (what == FEE_PLACE && boxes.has(i)) {
            return boxes.by[i];
        }
        return boxes.tell(i, what);
    }

    public int gap(int term, int i, int what) {
        if (!terms.has(term)) {
            return NONE;
        }
        boxGaps(term);
        return boxes.tell(i, what);
    }

    public int diff(int term, int other, int i, int what) {
        if (!terms.has(term) || !terms.has(other)) {
            return NONE;
        }
        boxDiffs(term, other);
        if (what == 6 && boxes.has(i)) {
            return firstOfPair(boxes.by[i]);
        }
        if (what == 7 && boxes.has(i)) {
            return secondOfPair(boxes.by[i]);
        }
        return boxes.tell(i, what);
    }

    // ---- rules

    public int rule(int term, int i) {
        if (!terms.has(term)) {
            return NONE;
        }
        tree.unfold(term);
        if (i == -1) {
            return tree.ruleCount();
        }
        int place = tree.placeOfRule(i);
        return tree.termAt(place);
    }

    public int idle(int term, int i) {
        if (!terms.has(term)) {
            return NONE;
        }
        tree.unfold(term);
        int place = tree.placeOfRule(i);
        if (place == NONE) {
            return NONE;
        }
        return isIdle(place) ? 1 : 0;
    }

    public int overlap(int one, int other) {
        if (!terms.has(one) || !terms.has(other)) {
            return NONE;
        }
        int box = terms.box[one];
        int otherBox = terms.box[other];
        if (box == NOT || otherBox == NOT) {
            return NOT;
        }
        return sharedSide(box, otherBox, 0) * sharedSide(box, otherBox, 2) * sharedSide(box, otherBox, 4);
    }

    // ---- what would be

    public int would(int flat, int v, int term, int one) {
        if (!isFlat(flat) || !terms.has(term) || !isCase(one)) {
            return NONE;
        }
        if (!isFee(v)) {
            return BAD;
        }
        tree.unfold(term);
        tree.suppose(flat, v);
        return tree.answer(one);
    }

    public int paid(int one, int fee) {
        if (one == -1) {
            receipts.forget();
            return 0;
        }
        if (!isCase(one)) {
            return NONE;
        }
        if (fee != -1 && !isFee(fee)) {
            return BAD;
        }
        return receipts.note(one, fee == -1 ? NOT : fee);
    }

    public int fits(int flat, int term, int what) {
        if (!isFlat(flat) || !terms.has(term) || what < 0 || what > 1) {
            return NONE;
        }
        tree.unfold(term);
        int many = 0;
        int least = NOT;
        for (int v = MOST_FEE; v >= 0; v--) {
            tree.suppose(flat, v);
            if (saysWhatWasPaid()) {
                many++;
                least = v;
            }
        }
        return what == 0 ? many : least;
    }

    public int till(int term, int seed, int n, int what) {
        if (!terms.has(term) || what < 0 || what > 2) {
            return NONE;
        }
        if (n < 1 || n > MOST_DRAWS) {
            return BAD;
        }
        tree.unfold(term);
        int z = seed;
        int total = 0;
        int silent = 0;
        int greatest = NOT;
        for (int k = 0; k < n; k++) {
            z = z * 1664525 + 1013904223;
            int said = tree.answer((z & NO_SIGN) / 256 % CASES);
            if (said == NOT) {
                silent++;
            } else {
                total += said;
                greatest = Math.max(greatest, said);
            }
        }
        return what == 0 ? total : what == 1 ? silent : greatest;
    }

    // ---- racks, judging, the image

    public int rack(int rack, int n) {
        if (!racks.has(rack)) {
            return NONE;
        }
        if (n > MOST_PLACES) {
            return BAD;
        }
        if (n < 0) {
            return BELOW;
        }
        racks.renew(rack, n);
        return 1;
    }

    public int put(int rack, int i, int v) {
        if (!racks.has(rack)) {
            return NONE;
        }
        if (!racks.holds(rack)) {
            return NOTHING;
        }
        if (!racks.hasPlace(rack, i)) {
            return BEYOND;
        }
        racks.store(rack, i, v);
        return 1;
    }

    public long get(int rack, int i) {
        return racks.hasPlace(rack, i) ? racks.at(rack, i) : NO;
    }

    public int lay(int term, int rack, int i) {
        if (!terms.has(term) || !racks.has(rack)) {
            return NONE;
        }
        if (!racks.holds(rack)) {
            return NOTHING;
        }
        boxFees(term);
        int all = PART_NUMBERS * boxes.count;
        for (int k = 0; k < all; k++) {
            // a place below 0 ends it too: no later number has a place if i is below 0
            if (!racks.hasPlace(rack, i + k)) {
                return BEYOND;
            }
            racks.store(rack, i + k, partNumber(k / PART_NUMBERS, k % PART_NUMBERS));
        }
        return all;
    }

    public int judge(int rack, int term) {
        if (!racks.has(rack) || !terms.has(term)) {
            return NONE;
        }
        if (!racks.holds(rack)) {
            return NOTHING;
        }
        int flaw = racks.flaw(rack);
        if (flaw != NONE) {
            return flaw;
        }
        tree.unfold(term);
        for (int one = 0; one < CASES; one++) {
            if (racks.answer(rack, one) != tree.answer(one)) {
                return 500 + one;
            }
        }
        return NOT;
    }

    public int image() {
        imageTerms.copyFrom(terms);
        imageReceipts.copyFrom(receipts);
        imaged = true;
        return terms.count;
    }

    public int undo() {
        if (!imaged) {
            return STATE;
        }
        terms.copyFrom(imageTerms);
        receipts.copyFrom(imageReceipts);
        return terms.count;
    }

    public int count(int what) {
        switch (what) {
            case 0: return terms.count;
            case 1: return receipts.count;
            case 2: return tape.length;
            case 3: return sheet.length;
            case 4: return terms.countOf(WHEN);
            case 5: return terms.greatestSize();
            default: return BAD;
        }
    }

    // ---- cases, fees, kinds

    private static boolean isCase(int one) {
        return one >= 0 && one < CASES;
    }

    private static boolean isFee(int fee) {
        return fee >= 0 && fee <= MOST_FEE;
    }

    private static boolean isOfTwo(int kind) {
        return kind == FIRST || kind == SUM || kind == LOW || kind == EXCEPT;
    }

    private static int kindAbove(int kind) {
        return kind == CAP ? WHEN : kind == EXCEPT ? FIRST : NONE;
    }

    private boolean isFlat(int term) {
        return terms.has(term) && terms.kind[term] == FLAT;
    }

    private static int caseOf(int age, int day, int hour) {
        return DAYS * HOURS * age + HOURS * day + hour;
    }

    private static int ageOf(int one) {
        return one / (DAYS * HOURS);
    }

    private static int dayOf(int one) {
        return one / HOURS % DAYS;
    }

    private static int hourOf(int one) {
        return one % HOURS;
    }

    // ---- a box as a number of six figures

    /** The figure at a place 0 .. 5 of a BOX, the first AGE at 0. */
    private static int figure(int box, int place) {
        int rest = box;
        for (int k = place; k < FIGURES - 1; k++) {
            rest = rest / 10;
        }
        return rest % 10;
    }

    /** Whether v can be at a place 0 .. 5 of a BOX, behind the figure that is ahead of it. */
    private static boolean canBe(int v, int place, int ahead) {
        int most = place < 2 ? LAST_AGE : place < 4 ? LAST_DAY : LAST_HOUR;
        int least = place % 2 == 0 ? 0 : ahead;
        return v >= least && v <= most;
    }

    private static boolean isBox(int box) {
        if (box < 0 || box > 999999) {
            return false;
        }
        int ahead = 0;
        for (int place = 0; place < FIGURES; place++) {
            int v = figure(box, place);
            if (!canBe(v, place, ahead)) {
                return false;
            }
            ahead = v;
        }
        return true;
    }

    /** Without figure(): this runs for every RULE and every CASE. */
    private static boolean isInBox(int one, int box) {
        int age = ageOf(one);
        int day = dayOf(one);
        int hour = hourOf(one);
        return age >= box / 100000 && age <= box / 10000 % 10
            && day >= box / 1000 % 10 && day <= box / 100 % 10
            && hour >= box / 10 % 10 && hour <= box % 10;
    }

    /** How many AGES (from place 0), DAYS (2) or HOURS (4) two BOXES share. */
    private static int sharedSide(int box, int otherBox, int place) {
        int first = Math.max(figure(box, place), figure(otherBox, place));
        int last = Math.min(figure(box, place + 1), figure(otherBox, place + 1));
        return Math.max(0, last - first + 1);
    }

    // ---- sums over all cases

    private int earned(int term) {
        tree.unfold(term);
        int all = 0;
        for (int one = 0; one < CASES; one++) {
            all += Math.max(0, tree.answer(one));
        }
        return all;
    }

    private int covered(int term) {
        tree.unfold(term);
        int many = 0;
        for (int one = 0; one < CASES; one++) {
            if (tree.answer(one) != NOT) {
                many++;
            }
        }
        return many;
    }

    /** What one side of covers by 224 (covers or 224) is in lowest terms. */
    private static int inLowestTerms(int side, int covers) {
        for (int d = CASES; d > 1; d--) {
            if (covers % d == 0 && CASES % d == 0) {
                return side / d;
            }
        }
        return side;
    }

    private boolean isIdle(int place) {
        for (int one = 0; one < CASES; one++) {
            tree.silence(NONE);
            int said = tree.answer(one);
            tree.silence(place);
            if (tree.answer(one) != said) {
                return false;
            }
        }
        return true;
    }

    private boolean saysWhatWasPaid() {
        for (int k = 0; k < receipts.count; k++) {
            if (tree.answer(receipts.one[k]) != receipts.fee[k]) {
                return false;
            }
        }
        return true;
    }

    // ---- plain form, gaps, diffs

    private void boxFees(int term) {
        tree.unfold(term);
        for (int one = 0; one < CASES; one++) {
            int said = tree.answer(one);
            boxes.mark[one] = said == NOT ? NONE : said;
        }
        boxes.takeAll();
    }

    private void boxGaps(int term) {
        tree.unfold(term);
        for (int one = 0; one < CASES; one++) {
            boxes.mark[one] = tree.answer(one) == NOT ? 0 : NONE;
        }
        boxes.takeAll();
    }

    private void boxDiffs(int term, int other) {
        tree.unfold(term);
        for (int one = 0; one < CASES; one++) {
            boxes.mark[one] = tree.answer(one);
        }
        tree.unfold(other);
        for (int one = 0; one < CASES; one++) {
            int said = boxes.mark[one];
            int otherSaid = tree.answer(one);
            boxes.mark[one] = said == otherSaid ? NONE : pair(said, otherSaid);
        }
        boxes.takeAll();
    }

    /** Two answers (-5 .. 99) as one mark, 0 or above. */
    private static int pair(int said, int otherSaid) {
        return (said - NOT) * 1000 + (otherSaid - NOT);
    }

    private static int firstOfPair(int mark) {
        return mark / 1000 + NOT;
    }

    private static int secondOfPair(int mark) {
        return mark % 1000 + NOT;
    }

    /** A number of a PART of the PLAIN FORM that was boxed last. */
    private int partNumber(int i, int place) {
        if (!boxes.has(i)) {
            return NONE;
        }
        return place == FEE_PLACE ? boxes.by[i] : figure(boxes.box[i], place);
    }

    /** The TERMS by number; what a TERM does not have is NOT, as `of` answers. */
    private static final class Terms {
        final int[] kind = new int[MOST_TERMS];
        final int[] fee = new int[MOST_TERMS];
        final int[] box = new int[MOST_TERMS];
        final int[] one = new int[MOST_TERMS];
        final int[] other = new int[MOST_TERMS];
        final int[] size = new int[MOST_TERMS];
        final int[] depth = new int[MOST_TERMS];
        int count = 0;

        boolean has(int term) {
            return term >= 0 && term < count;
        }

        /** A new TERM's number, or FULL; of the one and the other one NOT where there is none. */
        int add(int newKind, int newFee, int newBox, int newOne, int newOther) {
            int newSize = 1 + sizeOf(newOne) + sizeOf(newOther);
            if (count >= MOST_TERMS || newSize > MOST_SIZE) {
                return FULL;
            }
            kind[count] = newKind;
            fee[count] = newFee;
            box[count] = newBox;
            one[count] = newOne;
            other[count] = newOther;
            size[count] = newSize;
            depth[count] = 1 + Math.max(depthOf(newOne), depthOf(newOther));
            count++;
            return count - 1;
        }

        /** 0 where there is no such TERM. */
        int sizeOf(int term) {
            return has(term) ? size[term] : 0;
        }

        /** -1 where there is no such TERM, so that a TERM made of none has DEPTH 0. */
        private int depthOf(int term) {
            return has(term) ? depth[term] : -1;
        }

        void cutTo(int many) {
            if (many >= 0 && many < count) {
                count = many;
            }
        }

        int countOf(int wanted) {
            int many = 0;
            for (int term = 0; term < count; term++) {
                if (kind[term] == wanted) {
                    many++;
                }
            }
            return many;
        }

        int greatestSize() {
            int greatest = 0;
            for (int term = 0; term < count; term++) {
                greatest = Math.max(greatest, size[term]);
            }
            return greatest;
        }

        void copyFrom(Terms from) {
            count = from.count;
            for (int term = 0; term < count; term++) {
                kind[term] = from.kind[term];
                fee[term] = from.fee[term];
                box[term] = from.box[term];
                one[term] = from.one[term];
                other[term] = from.other[term];
                size[term] = from.size[term];
                depth[term] = from.depth[term];
            }
        }
    }

    /** PAID; a FEE of nothing is NOT, as a TERM answers. */
    private static final class Paid {
        final int[] one = new int[MOST_PAID];
        final int[] fee = new int[MOST_PAID];
        int count = 0;

        int note(int newOne, int newFee) {
            if (count >= MOST_PAID) {
                return FULL;
            }
            one[count] = newOne;
            fee[count] = newFee;
            count++;
            return count;
        }

        void forget() {
            count = 0;
        }

        void copyFrom(Paid from) {
            count = from.count;
            for (int k = 0; k < count; k++) {
                one[k] = from.one[k];
                fee[k] = from.fee[k];
            }
        }
    }

    /**
     * A TERM unfolded: itself at place 0, the one it is made of right behind it,
     * the other one behind all that is in the one. So a TERM has a place for each
     * time it is in it, and all it is made of has later places.
     */
    private static final class Tree {
        private final Terms terms;
        private final int[] term = new int[MOST_SIZE];
        private final int[] otherPlace = new int[MOST_SIZE];
        private final int[] said = new int[MOST_SIZE];
        private int length = 0;
        private int silent = NONE;
        private int supposedFlat = NONE;
        private int supposedFee = NOT;

        Tree(Terms terms) {
            this.terms = terms;
        }

        /** Lays a TERM out anew, with nothing silenced or supposed. */
        void unfold(int whole) {
            length = Math.min(terms.sizeOf(whole), MOST_SIZE);
            silent = NONE;
            supposedFlat = NONE;
            setPlace(0, whole);
            for (int k = 0; k < length; k++) {
                int here = term[k];
                int one = terms.has(here) ? terms.one[here] : NOT;
                int other = terms.has(here) ? terms.other[here] : NOT;
                otherPlace[k] = k + 1 + terms.sizeOf(one);
                setPlace(k + 1, one);
                setPlace(otherPlace[k], other);
            }
        }

        private void setPlace(int place, int what) {
            if (place < length && terms.has(what)) {
                term[place] = what;
            }
        }

        /** Has the RULE at a place say nothing of any CASE (NONE: no place). */
        void silence(int place) {
            silent = place;
        }

        void suppose(int flat, int fee) {
            supposedFlat = flat;
            supposedFee = fee;
        }

        /** What the TERM says of a CASE. */
        int answer(int one) {
            for (int k = length - 1; k >= 0; k--) {
                said[k] = k == silent ? NOT : answerAt(k, one);
            }
            return saidAt(0);
        }

        private int saidAt(int place) {
            return place >= 0 && place < length ? said[place] : NOT;
        }

        int termAt(int place) {
            return place >= 0 && place < length ? term[place] : NONE;
        }

        private int answerAt(int place, int one) {
            int here = termAt(place);
            if (!terms.has(here)) {
                return NOT;
            }
            int first = saidAt(place + 1);
            int second = saidAt(otherPlace[place]);
            switch (terms.kind[here]) {
                case FLAT: return here == supposedFlat ? supposedFee : terms.fee[here];
                case WHEN: return isInBox(one, terms.box[here]) ? first : NOT;
                case CAP: return capped(first, here, one);
                case FIRST: return first == NOT ? second : first;
                case EXCEPT: return second == NOT ? first : NOT;
                case SUM: return first == NOT ? second : second == NOT ? first : Math.min(first + second, MOST_FEE);
                case LOW: return first == NOT ? second : second == NOT ? first : Math.min(first, second);
                default: return NOT;
            }
        }

        private int capped(int first, int cap, int one) {
            if (first == NOT || !isInBox(one, terms.box[cap])) {
                return first;
            }
            return Math.min(first, terms.fee[cap]);
        }

        int ruleCount() {
            int many = 0;
            for (int k = 0; k < length; k++) {
                if (isRule(k)) {
                    many++;
                }
            }
            return many;
        }

        /** The place of RULE i, or NONE. */
        int placeOfRule(int i) {
            int many = 0;
            for (int k = 0; k < length; k++) {
                if (isRule(k)) {
                    if (many == i) {
                        return k;
                    }
                    many++;
                }
            }
            return NONE;
        }

        private boolean isRule(int place) {
            int here = termAt(place);
            return terms.has(here) && terms.kind[here] == WHEN;
        }
    }

    /** CASES BOXED by marks: a CASE without one, or in a BOX already, has the mark NONE. */
    private static final class Boxes {
        final int[] mark = new int[CASES];
        final int[] box = new int[CASES];
        final int[] by = new int[CASES];
        int count = 0;

        boolean has(int i) {
            return i >= 0 && i < count;
        }

        /** How many there are (i -1), or a figure of BOX i; NONE. */
        int tell(int i, int what) {
            if (i == -1) {
                return count;
            }
            return has(i) && what >= 0 && what < FIGURES ? figure(box[i], what) : NONE;
        }

        void takeAll() {
            count = 0;
            for (int corner = 0; corner < CASES; corner++) {
                if (mark[corner] != NONE) {
                    takeFrom(corner);
                }
            }
        }

        private void takeFrom(int corner) {
            int wanted = mark[corner];
            int age = ageOf(corner);
            int day = dayOf(corner);
            int hour = hourOf(corner);
            int lastHour = hour;
            while (lastHour < LAST_HOUR && hoursAlike(age, day, lastHour + 1, lastHour + 1, wanted)) {
                lastHour++;
            }
            int lastDay = day;
            while (lastDay < LAST_DAY && hoursAlike(age, lastDay + 1, hour, lastHour, wanted)) {
                lastDay++;
            }
            int lastAge = age;
            while (lastAge < LAST_AGE && daysAlike(lastAge + 1, day, lastDay, hour, lastHour, wanted)) {
                lastAge++;
            }
            keep(100000 * age + 10000 * lastAge + 1000 * day + 100 * lastDay + 10 * hour + lastHour, wanted);
        }

        private boolean hoursAlike(int age, int day, int hour, int lastHour, int wanted) {
            for (int h = hour; h <= lastHour; h++) {
                int one = caseOf(age, day, h);
                if (!isCase(one) || mark[one] != wanted) {
                    return false;
                }
            }
            return true;
        }

        private boolean daysAlike(int age, int day, int lastDay, int hour, int lastHour, int wanted) {
            for (int d = day; d <= lastDay; d++) {
                if (!hoursAlike(age, d, hour, lastHour, wanted)) {
                    return false;
                }
            }
            return true;
        }

        private void keep(int newBox, int wanted) {
            if (count < CASES) {
                box[count] = newBox;
                by[count] = wanted;
                count++;
            }
            for (int one = 0; one < CASES; one++) {
                if (mark[one] == wanted && isInBox(one, newBox)) {
                    mark[one] = NONE;
                }
            }
        }
    }

    /** THE TAPE and THE WAY, and the reading of a TERM from its text. */
    private static final class Tape {
        /** No byte of a text: 0 can't be fed. */
        private static final int END = 0;
        /** The KIND that stands for #N while a text is read. */
        private static final int NUMBERED = 8;

        private final Terms terms;
        private final int[] bytes = new int[MOST_TAPE];
        int length = 0;
        final int[] way = new int[MOST_WITHIN + 1];
        int wayLength = 0;
        private int at = 0;
        private int ahead = 0;
        private int fault = NONE;
        private boolean full = false;
        private final int[] begun = new int[MOST_WITHIN + 1];
        private int begunLength = 0;

        Tape(Terms terms) {
            this.terms = terms;
        }

        int append(int letter) {
            if (length >= MOST_TAPE) {
                return FULL;
            }
            bytes[length] = letter;
            length++;
            return length;
        }

        int wipe() {
            int had = length;
            length = 0;
            return had;
        }

        /**
         * New TERMS come while the text is read, and go again if it can't all be
         * taken: a FAULT behind a TERM without room is still told.
         */
        int readAll() {
            at = 0;
            ahead = terms.count;
            fault = NONE;
            full = false;
            begunLength = 0;
            int number = readTerm(0);
            if (fault == NONE && at < length) {
                fail(at);
            }
            length = 0;
            if (fault == NONE && !full) {
                return number;
            }
            terms.cutTo(ahead);
            return fault == NONE ? FULL : -100 - fault;
        }

        private int here() {
            return at >= 0 && at < length ? bytes[at] : END;
        }

        private boolean isFigure(int letter) {
            return letter >= '0' && letter <= '9';
        }

        /** Takes the FAULT and THE WAY to it; only the first one counts. */
        private void fail(int place) {
            if (fault != NONE) {
                return;
            }
            fault = place;
            wayLength = 0;
            for (int k = begunLength - 1; k >= 0; k--) {
                way[wayLength] = begun[k];
                wayLength++;
            }
        }

        /** Goes over a letter that must be here; false is a FAULT, now or earlier. */
        private boolean goOver(int letter) {
            if (fault == NONE && here() != letter) {
                fail(at);
            }
            if (fault != NONE) {
                return false;
            }
            at++;
            return true;
        }

        /** An E that begins within so many ( : its TERM's number, NONE behind a FAULT. */
        private int readTerm(int within) {
            int letter = here();
            if (isFigure(letter)) {
                return take(FLAT, readNumber(), NOT, NOT, NOT);
            }
            if (letter == '-') {
                at++;
                return take(VOID, NOT, NOT, NOT, NOT);
            }
            int kind = kindBySign(letter);
            if (kind == NONE || begunLength > MOST_WITHIN) {
                fail(at);
                return NONE;
            }
            begun[begunLength] = at;
            begunLength++;
            at++;
            int number = kind == NUMBERED ? readNamed() : readComposed(kind, within);
            if (fault == NONE) {
                begunLength--;
            }
            return number;
        }

        private int kindBySign(int letter) {
            switch (letter) {
                case '#': return NUMBERED;
                case '?': return WHEN;
                case '^': return CAP;
                case '/': return FIRST;
                case '+': return SUM;
                case '<': return LOW;
                case '!': return EXCEPT;
                default: return NONE;
            }
        }

        private int readNamed() {
            int place = at;
            int number = readNumber();
            if (fault == NONE && number >= ahead) {
                fail(place);
            }
            return fault == NONE ? number : NONE;
        }

        private int readComposed(int kind, int within) {
            boolean boxed = kind == WHEN || kind == CAP;
            int box = boxed ? readBox() : NOT;
            int fee = kind == CAP && goOver(':') ? readNumber() : NOT;
            if (within >= MOST_WITHIN) {
                fail(at);
            }
            if (!goOver('(')) {
                return NONE;
            }
            int one = readTerm(within + 1);
            int other = NOT;
            if (!boxed) {
                if (!goOver(',')) {
                    return NONE;
                }
                other = readTerm(within + 1);
            }
            return goOver(')') ? take(kind, fee, box, one, other) : NONE;
        }

        private int readBox() {
            int box = 0;
            int before = 0;
            for (int place = 0; place < FIGURES && fault == NONE; place++) {
                int v = here() - '0';
                if (canBe(v, place, before)) {
                    at++;
                } else {
                    fail(at);
                }
                box = 10 * box + v;
                before = v;
            }
            return box;
        }

        /** A number of one figure, or two. */
        private int readNumber() {
            if (!isFigure(here())) {
                fail(at);
                return NONE;
            }
            int number = here() - '0';
            at++;
            if (isFigure(here())) {
                number = 10 * number + here() - '0';
                at++;
            }
            return number;
        }

        /** Once one new TERM had no room none comes, but the text is read on for a FAULT. */
        private int take(int kind, int fee, int box, int one, int other) {
            int number = full ? FULL : terms.add(kind, fee, box, one, other);
            if (number == FULL) {
                full = true;
            }
            return number;
        }
    }

    /** THE PAPER, and the spelling of a TERM. */
    private static final class Paper {
        private final Terms terms;
        final byte[] bytes = new byte[MOST_PAPER];
        int length = 0;

        Paper(Terms terms) {
            this.terms = terms;
        }

        int write(int term) {
            length = 0;
            writeTerm(term, 0);
            return length;
        }

        /** A TERM is made of lesser numbers, so none is deeper than there are TERMS. */
        private void writeTerm(int term, int depth) {
            if (!terms.has(term) || depth >= MOST_TERMS) {
                return;
            }
            int kind = terms.kind[term];
            if (kind == FLAT) {
                writeFee(terms.fee[term]);
                return;
            }
            writeByte(signOf(kind));
            if (kind == VOID) {
                return;
            }
            writeHead(term);
            writeByte('(');
            writeTerm(terms.one[term], depth + 1);
            if (isOfTwo(kind)) {
                writeByte(',');
                writeTerm(terms.other[term], depth + 1);
            }
            writeByte(')');
        }

        private int signOf(int kind) {
            switch (kind) {
                case WHEN: return '?';
                case CAP: return '^';
                case FIRST: return '/';
                case SUM: return '+';
                case LOW: return '<';
                case EXCEPT: return '!';
                default: return '-';
            }
        }

        /** What stands between the sign and the ( : the BOX, and the FEE of a CAP. */
        private void writeHead(int term) {
            if (terms.box[term] == NOT) {
                return;
            }
            for (int place = 0; place < FIGURES; place++) {
                writeByte('0' + figure(terms.box[term], place));
            }
            if (terms.kind[term] == CAP) {
                writeByte(':');
                writeFee(terms.fee[term]);
            }
        }

        private void writeFee(int fee) {
            if (fee >= 10) {
                writeByte('0' + fee / 10);
            }
            writeByte('0' + fee % 10);
        }

        private void writeByte(int letter) {
            if (length < MOST_PAPER) {
                bytes[length] = (byte) letter;
                length++;
            }
        }
    }

    /** RACKS; one that holds nothing has the length NONE. */
    private static final class Racks {
        private final int[][] row = new int[MOST_RACKS][MOST_PLACES];
        private final int[] length = {NONE, NONE, NONE, NONE};

        boolean has(int rack) {
            return rack >= 0 && rack < MOST_RACKS;
        }

        boolean holds(int rack) {
            return has(rack) && length[rack] != NONE;
        }

        boolean hasPlace(int rack, int i) {
            return has(rack) && i >= 0 && i < length[rack];
        }

        void renew(int rack, int n) {
            if (!has(rack) || n < 0 || n > MOST_PLACES) {
                return;
            }
            length[rack] = n;
            for (int i = 0; i < n; i++) {
                row[rack][i] = 0;
            }
        }

        void store(int rack, int i, int v) {
            if (hasPlace(rack, i)) {
                row[rack][i] = v;
            }
        }

        /** 0 where there is no such place. */
        int at(int rack, int i) {
            return hasPlace(rack, i) ? row[rack][i] : 0;
        }

        /** How many PARTS are told, a last one that lacks numbers too. */
        private int partsOf(int rack) {
            return has(rack) ? (length[rack] + PART_NUMBERS - 1) / PART_NUMBERS : 0;
        }

        /** The first number that can't be, or lacks, as JUDGED tells it; NONE. */
        int flaw(int rack) {
            int parts = partsOf(rack);
            for (int k = 0; k < parts * PART_NUMBERS; k++) {
                if (!hasPlace(rack, k) || !numberCanBe(rack, k)) {
                    return k / PART_NUMBERS * 10 + k % PART_NUMBERS;
                }
            }
            return NONE;
        }

        private boolean numberCanBe(int rack, int k) {
            int place = k % PART_NUMBERS;
            int v = at(rack, k);
            return place == FEE_PLACE ? isFee(v) : canBe(v, place, at(rack, k - 1));
        }

        /** What the PLAIN FORM told by a RACK without a flaw says of a CASE. */
        int answer(int rack, int one) {
            int parts = partsOf(rack);
            for (int i = 0; i < parts; i++) {
                if (isInPart(rack, PART_NUMBERS * i, one)) {
                    return at(rack, PART_NUMBERS * i + FEE_PLACE);
                }
            }
            return NOT;
        }

        private boolean isInPart(int rack, int from, int one) {
            return isWithin(ageOf(one), rack, from)
                && isWithin(dayOf(one), rack, from + 2)
                && isWithin(hourOf(one), rack, from + 4);
        }

        private boolean isWithin(int v, int rack, int from) {
            return v >= at(rack, from) && v <= at(rack, from + 1);
        }
    }
}
