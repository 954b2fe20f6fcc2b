import java.util.ArrayList;
import java.util.List;

/**
 * All promises together: long runs of calls, each answer held against a second
 * program that is written from the document anew, in another way (trees of
 * objects, a stack machine for the texts, boxes tried whole).
 */
public final class ModelTest {
    private static final int RUNS = 2500;
    /** An object is good for 512 calls. */
    private static final int CALLS = 512;
    private static long state = 20261118;
    /** How many calls this run's object has had. */
    private static int spent = 0;
    /** Texts without room, with a fault, taken: each must come often, or little is tested. */
    private static final int[] kinds = new int[3];

    public static void main(String[] args) {
        for (int run = 0; run < RUNS; run++) {
            if (!agrees(run)) {
                break;
            }
        }
        for (int kind = 0; kind < 3; kind++) {
            Dues.due("many texts of sort " + kind, kinds[kind] > 1000 ? 1 : 0, 1);
        }
        Dues.end("ModelTest");
    }

    private static int draw(int below) {
        state = state * 6364136223846793005L + 1442695040888963407L;
        return (int) ((state >>> 33) % below);
    }

    /** Mostly a number from 0 on, now and then one at the edges. */
    private static int near(int below) {
        int luck = draw(40);
        if (luck == 0) {
            return -1;
        }
        if (luck == 1) {
            return below;
        }
        if (luck == 2) {
            int[] far = {Integer.MIN_VALUE, Integer.MAX_VALUE, -2, below + 1};
            return far[draw(far.length)];
        }
        return draw(Math.max(1, below));
    }

    private static boolean agrees(int run) {
        TariffBoxes x = new TariffBoxes();
        Model m = new Model();
        StringBuilder told = new StringBuilder();
        spent = 0;
        // no step takes a hundred calls
        while (spent <= CALLS - 100) {
            long[] answers = draw(6) == 0 ? text(x, m, told) : call(x, m, told);
            Dues.due("run " + run, answers[0], answers[1]);
            if (answers[0] != answers[1]) {
                System.out.println(told);
                return false;
            }
        }
        return true;
    }

    private static long[] call(TariffBoxes x, Model m, StringBuilder told) {
        int n = m.terms.size();
        int t = near(n);
        int u = near(n);
        int i = near(5);
        int what = near(7);
        int one = near(224);
        int fee = near(100);
        int rack = near(4);
        int box = Texts.box();
        int which = draw(39);
        told.append(which).append(": t ").append(t).append(", u ").append(u).append(", i ").append(i).append(", what ")
            .append(what).append(", one ").append(one).append(", fee ").append(fee).append(", rack ").append(rack)
            .append(", box ").append(box).append('\n');
        switch (which) {
            case 0: return both(x.flat(fee), m.flat(fee));
            case 1: return both(x.empty(), m.empty());
            case 2: case 36: return both(x.when(t, box), m.when(t, box));
            case 3: return both(x.cap(t, box, fee), m.cap(t, box, fee));
            case 4: case 37: case 38: {
                int kind = draw(8) == 0 ? draw(10) - 1 : new int[] {3, 4, 5, 7}[draw(4)];
                return both(x.two(kind, t, u), m.two(kind, t, u));
            }
            case 5: return draw(3) == 0 ? both(x.drop(), m.drop()) : both(0, 0);
            case 6: {
                int letter = near(128);
                return draw(4) == 0 ? both(x.feed(letter), m.feed(letter)) : both(0, 0);
            }
            case 7: return draw(3) == 0 ? both(x.clear(), m.clear()) : both(0, 0);
            case 8: case 35: return both(x.read(), m.read());
            case 9: return both(x.way(i - 1), m.way(i - 1));
            case 10: return both(x.of(t, what), m.of(t, what));
            case 11: return both(x.taken(t, what), m.taken(t, what));
            case 12: return both(x.spell(t), m.spell(t));
            case 13: return paper(x, m);
            case 14: return both(x.says(t, one), m.says(t, one));
            case 15: return both(x.sum(t, i - 1), m.sum(t, i - 1));
            case 16: return both(x.odds(t, i - 1), m.odds(t, i - 1));
            case 17: return both(x.part(t, i - 1, what), m.part(t, i - 1, what));
            case 18: return both(x.gap(t, i - 1, what), m.gap(t, i - 1, what));
            case 19: return both(x.diff(t, u, i - 1, what + 1), m.diff(t, u, i - 1, what + 1));
            case 20: return both(x.rule(t, i - 1), m.rule(t, i - 1));
            case 21: return both(x.idle(t, i), m.idle(t, i));
            case 22: return both(x.overlap(t, u), m.overlap(t, u));
            case 23: return both(x.would(u, fee, t, one), m.would(u, fee, t, one));
            case 24: return paid(x, m, t, one, fee);
            case 25: return both(x.fits(u, t, i - 1), m.fits(u, t, i - 1));
            case 26: {
                int seed = (int) state;
                int many = 1 + near(40);
                return both(x.till(t, seed, many, i), m.till(t, seed, many, i));
            }
            case 27: {
                int many = near(71);
                return both(x.rack(rack, many), m.rack(rack, many));
            }
            case 28: return both(x.put(rack, what, i), m.put(rack, what, i));
            case 29: return both(x.get(rack, what), m.get(rack, what));
            case 30: return lay(x, m, t, rack, what);
            case 31: return judge(x, m, t, rack);
            case 32: return draw(4) == 0 ? both(x.image(), m.image()) : both(0, 0);
            case 33: return draw(4) == 0 ? both(x.undo(), m.undo()) : both(0, 0);
            default: return both(x.count(what), m.count(what));
        }
    }

    /** A text is fed, and mostly read at once, with the way to its fault. */
    private static long[] text(TariffBoxes x, Model m, StringBuilder told) {
        String text = Texts.any(m.terms.size());
        spent += text.length();
        told.append("text ").append(text).append('\n');
        for (int k = 0; k < text.length(); k++) {
            x.feed(text.charAt(k));
            m.feed(text.charAt(k));
        }
        if (draw(6) == 0) {
            return both(x.count(2), m.count(2));
        }
        long[] answers = both(x.read(), m.read());
        kinds[answers[1] == -4 ? 0 : answers[1] < 0 ? 1 : 2]++;
        for (int k = -1; k < 8 && answers[0] == answers[1]; k++) {
            answers = both(x.way(k), m.way(k));
        }
        return answers;
    }

    private static long[] both(long got, long want) {
        spent++;
        return new long[] {got, want};
    }

    /** Sixty bytes of THE PAPER, from anywhere in it. */
    private static long[] paper(TariffBoxes x, Model m) {
        int from = draw(m.paper.length() + 2) - 1;
        long[] answers = both(0, 0);
        for (int k = from; k < from + 60 && k <= m.paper.length() && answers[0] == answers[1]; k++) {
            answers = both(x.paper(k), m.paper(k));
        }
        return answers;
    }

    /** Half of the fees are those that a term says, or little can fit. */
    private static long[] paid(TariffBoxes x, Model m, int t, int one, int fee) {
        int given = fee;
        if (draw(2) == 0 && m.has(t) && one >= 0 && one < 224) {
            given = Math.max(-1, m.says(t, one));
        }
        if (one == -1 && draw(2) == 0) {
            return both(0, 0);
        }
        return both(x.paid(one, given), m.paid(one, given));
    }

    private static long[] lay(TariffBoxes x, Model m, int t, int rack, int i) {
        long[] answers = both(x.lay(t, rack, i), m.lay(t, rack, i));
        for (int k = 0; k <= 70 && answers[0] == answers[1]; k++) {
            answers = both(x.get(rack, k), m.get(rack, k));
        }
        return answers;
    }

    /** Half of the racks judged hold the plain form, or one with a number changed. */
    private static long[] judge(TariffBoxes x, Model m, int t, int rack) {
        if (draw(2) == 0 && m.has(t)) {
            int many = Math.min(70, 7 * m.part(t, -1, 0));
            spent += 3;
            x.rack(rack, many);
            m.rack(rack, many);
            x.lay(t, rack, 0);
            m.lay(t, rack, 0);
            if (draw(2) == 0) {
                int place = draw(71);
                int v = draw(10) - 1;
                x.put(rack, place, v);
                m.put(rack, place, v);
            }
        }
        return both(x.judge(rack, t), m.judge(rack, t));
    }

    /** Texts of terms, many of them with a fault. */
    private static final class Texts {
        static int box() {
            int[] most = {7, 7, 6, 6, 3, 3};
            int box = 0;
            int before = 0;
            for (int place = 0; place < 6; place++) {
                int least = place % 2 == 0 ? 0 : before;
                int v = draw(3) == 0 ? (place % 2 == 0 ? 0 : most[place]) : least + draw(most[place] - least + 1);
                box = 10 * box + v;
                before = v;
            }
            return draw(30) == 0 ? box + draw(200000) - 100000 : box;
        }

        static String any(int terms) {
            StringBuilder text = new StringBuilder();
            expression(text, 0, terms);
            if (draw(4) == 0 && text.length() > 0) {
                String letters = "0123456789#?^/+<!-(),:x";
                int at = draw(text.length() + 1);
                char letter = letters.charAt(draw(letters.length()));
                switch (draw(3)) {
                    case 0: text.insert(at, letter); break;
                    case 1: text.setLength(at); break;
                    default: text.setCharAt(Math.min(at, text.length() - 1), letter); break;
                }
            }
            text.setLength(Math.min(text.length(), 70));
            return text.toString();
        }

        private static void expression(StringBuilder text, int within, int terms) {
            int luck = draw(within > 3 && draw(10) > 0 ? 3 : 10);
            if (luck == 0) {
                text.append('-');
            } else if (luck == 1) {
                text.append('#').append(near(terms));
            } else if (luck == 2) {
                text.append(draw(100));
            } else if (luck < 6) {
                text.append("?").append(boxText()).append('(');
                expression(text, within + 1, terms);
                text.append(')');
            } else if (luck == 6) {
                text.append("^").append(boxText()).append(':').append(draw(100)).append('(');
                expression(text, within + 1, terms);
                text.append(')');
            } else {
                text.append("/+<!".charAt(draw(4))).append('(');
                expression(text, within + 1, terms);
                text.append(',');
                expression(text, within + 1, terms);
                text.append(')');
            }
        }

        private static String boxText() {
            String text = "00000" + Math.max(0, box());
            return text.substring(text.length() - 6);
        }
    }

    /** A term as a tree. */
    private static final class Node {
        int number;
        int kind;
        int fee = -5;
        int[] box;
        Node one;
        Node other;

        int size() {
            return 1 + (one == null ? 0 : one.size()) + (other == null ? 0 : other.size());
        }

        int depth() {
            return one == null ? 0 : 1 + Math.max(one.depth(), other == null ? 0 : other.depth());
        }

        boolean inBox(int c) {
            int[] sides = {c / 28, c % 28 / 4, c % 4};
            for (int s = 0; s < 3; s++) {
                if (sides[s] < box[2 * s] || sides[s] > box[2 * s + 1]) {
                    return false;
                }
            }
            return true;
        }

        /** null: nothing; skip[0] counts down to the rule that says nothing. */
        Integer says(int c, Node flat, int v, int[] skip) {
            boolean muted = kind == 2 && skip[0]-- == 0;
            Integer a = one == null ? null : one.says(c, flat, v, skip);
            Integer b = other == null ? null : other.says(c, flat, v, skip);
            if (muted) {
                return null;
            }
            switch (kind) {
                case 0: return this == flat ? v : fee;
                case 1: return null;
                case 2: return inBox(c) ? a : null;
                case 6: return a != null && inBox(c) && a > fee ? Integer.valueOf(fee) : a;
                case 3: return a != null ? a : b;
                case 7: return b != null ? null : a;
                default: break;
            }
            if (a == null || b == null) {
                return a == null ? b : a;
            }
            return kind == 4 ? Math.min(99, a + b) : Math.min(a, b);
        }

        void rules(List<Node> into) {
            if (kind == 2) {
                into.add(this);
            }
            if (one != null) {
                one.rules(into);
            }
            if (other != null) {
                other.rules(into);
            }
        }

        int boxNumber() {
            int number = 0;
            for (int k = 0; k < 6 && box != null; k++) {
                number = number * 10 + box[k];
            }
            return box == null ? -5 : number;
        }

        String text() {
            String digits = box == null ? "" : String.format("%06d", boxNumber());
            switch (kind) {
                case 0: return "" + fee;
                case 1: return "-";
                case 2: return "?" + digits + "(" + one.text() + ")";
                case 6: return "^" + digits + ":" + fee + "(" + one.text() + ")";
                default: return "  ?/+<^!".charAt(kind) + "(" + one.text() + "," + other.text() + ")";
            }
        }
    }

    private static final class Model {
        List<Node> terms = new ArrayList<>();
        List<int[]> paid = new ArrayList<>();
        List<Node> imageTerms = null;
        List<int[]> imagePaid = null;
        StringBuilder tape = new StringBuilder();
        List<Integer> way = new ArrayList<>();
        String paper = "";
        int[][] racks = new int[4][];

        boolean has(int t) {
            return t >= 0 && t < terms.size();
        }

        private static int[] boxOf(int box) {
            if (box < 0 || box > 999999) {
                return null;
            }
            String text = String.format("%06d", box);
            int[] figures = new int[6];
            for (int k = 0; k < 6; k++) {
                figures[k] = text.charAt(k) - '0';
            }
            boolean fine = figures[1] <= 7 && figures[3] <= 6 && figures[5] <= 3 && figures[0] <= figures[1]
                && figures[2] <= figures[3] && figures[4] <= figures[5];
            return fine ? figures : null;
        }

        private static Node node(int kind, int fee, int[] box, Node one, Node other) {
            Node node = new Node();
            node.kind = kind;
            node.fee = fee;
            node.box = box;
            node.one = one;
            node.other = other;
            return node;
        }

        private int come(Node node) {
            if (terms.size() == 24 || node.size() > 40) {
                return -4;
            }
            node.number = terms.size();
            terms.add(node);
            return node.number;
        }

        int flat(int fee) {
            return fee < 0 || fee > 99 ? -2 : come(node(0, fee, null, null, null));
        }

        int empty() {
            return come(node(1, -5, null, null, null));
        }

        int when(int t, int box) {
            return !has(t) ? -1 : boxOf(box) == null ? -2 : come(node(2, -5, boxOf(box), terms.get(t), null));
        }

        int cap(int t, int box, int fee) {
            if (!has(t)) {
                return -1;
            }
            return boxOf(box) == null || fee < 0 || fee > 99 ? -2 : come(node(6, fee, boxOf(box), terms.get(t), null));
        }

        int two(int kind, int t, int u) {
            if (kind < 3 || kind > 7 || kind == 6 || !has(t) || !has(u)) {
                return -1;
            }
            return come(node(kind, -5, null, terms.get(t), terms.get(u)));
        }

        int drop() {
            if (terms.isEmpty()) {
                return -3;
            }
            terms.remove(terms.size() - 1);
            return terms.size();
        }

        int feed(int letter) {
            if (letter < 1 || letter > 127) {
                return -2;
            }
            if (tape.length() == 60) {
                return -4;
            }
            tape.append((char) letter);
            return tape.length();
        }

        int clear() {
            int had = tape.length();
            tape.setLength(0);
            return had;
        }

        /**
         * A stack of what is still expected: X an E, A to F a figure of a box, f a
         * number, e the end of an E, and else the letter itself.
         */
        int read() {
            String text = tape.toString();
            tape.setLength(0);
            Reading r = new Reading(text, terms);
            int fault = r.run();
            if (fault >= 0) {
                way = r.way();
                return -100 - fault;
            }
            if (terms.size() + r.made.size() > 24) {
                return -4;
            }
            for (Node node : r.made) {
                if (node.size() > 40) {
                    return -4;
                }
            }
            for (Node node : r.made) {
                come(node);
            }
            return r.values.get(0).number;
        }

        int way(int k) {
            return k == -1 ? way.size() : k >= 0 && k < way.size() ? way.get(k) : -1;
        }

        int of(int t, int what) {
            if (!has(t)) {
                return -1;
            }
            Node n = terms.get(t);
            switch (what) {
                case 0: return n.kind;
                case 1: return n.fee;
                case 2: return n.one == null ? -5 : n.one.number;
                case 3: return n.other == null ? -5 : n.other.number;
                case 4: return n.size();
                case 5: return n.depth();
                case 6: return n.boxNumber();
                default: return -1;
            }
        }

        int taken(int t, int k) {
            if (!has(t) || k < 0 || k > 7) {
                return -1;
            }
            int[] above = {0, 1, 2, 3, 4, 5, 2, 3};
            int kind = terms.get(t).kind;
            return kind == k || above[kind] == k ? terms.get(t).size() : -12;
        }

        int spell(int t) {
            if (!has(t)) {
                return -1;
            }
            paper = terms.get(t).text();
            return paper.length();
        }

        int paper(int i) {
            return i >= 0 && i < paper.length() ? paper.charAt(i) : -1;
        }

        private static int plain(Integer said) {
            return said == null ? -5 : said;
        }

        private int said(int t, int c) {
            return plain(terms.get(t).says(c, null, 0, new int[] {-1}));
        }

        int says(int t, int c) {
            return !has(t) || c < 0 || c > 223 ? -1 : said(t, c);
        }

        int sum(int t, int what) {
            if (!has(t) || what < 0 || what > 1) {
                return -1;
            }
            int earns = 0;
            int covers = 0;
            for (int c = 0; c < 224; c++) {
                if (said(t, c) >= 0) {
                    earns += said(t, c);
                    covers++;
                }
            }
            return what == 0 ? earns : covers;
        }

        long odds(int t, int part) {
            if (!has(t) || part < 0 || part > 1) {
                return Long.MIN_VALUE;
            }
            int a = sum(t, 1);
            int b = 224;
            while (b != 0) {
                int rest = a % b;
                a = b;
                b = rest;
            }
            return (part == 0 ? sum(t, 1) : 224) / a;
        }

        /** The boxes of marks (null: none), each with its mark behind it. */
        private static List<Object[]> boxed(String[] marks) {
            boolean[] gone = new boolean[224];
            List<Object[]> boxes = new ArrayList<>();
            for (int c = 0; c < 224; c++) {
                if (marks[c] == null || gone[c]) {
                    continue;
                }
                int[] box = {c / 28, c / 28, c % 28 / 4, c % 28 / 4, c % 4, c % 4};
                int[] most = {0, 7, 0, 6, 0, 3};
                for (int side = 5; side >= 1; side -= 2) {
                    while (box[side] < most[side]) {
                        box[side]++;
                        if (!uniform(marks, gone, box, marks[c])) {
                            box[side]--;
                            break;
                        }
                    }
                }
                Node holder = node(2, -5, box, null, null);
                for (int d = 0; d < 224; d++) {
                    gone[d] |= holder.inBox(d);
                }
                boxes.add(new Object[] {box, marks[c]});
            }
            return boxes;
        }

        private static boolean uniform(String[] marks, boolean[] gone, int[] box, String mark) {
            Node holder = node(2, -5, box, null, null);
            for (int d = 0; d < 224; d++) {
                if (holder.inBox(d) && (gone[d] || !mark.equals(marks[d]))) {
                    return false;
                }
            }
            return true;
        }

        private static int told(List<Object[]> boxes, int i, int what, int parts) {
            if (i == -1) {
                return boxes.size();
            }
            if (i < 0 || i >= boxes.size() || what < 0 || what >= 6 + parts) {
                return -1;
            }
            Object[] found = boxes.get(i);
            if (what < 6) {
                return ((int[]) found[0])[what];
            }
            return Integer.parseInt(((String) found[1]).split(" ")[what - 6]);
        }

        private List<Object[]> plainForm(int t) {
            String[] marks = new String[224];
            for (int c = 0; c < 224; c++) {
                marks[c] = said(t, c) < 0 ? null : "" + said(t, c);
            }
            return boxed(marks);
        }

        int part(int t, int i, int what) {
            return has(t) ? told(plainForm(t), i, what, 1) : -1;
        }

        int gap(int t, int i, int what) {
            if (!has(t)) {
                return -1;
            }
            String[] marks = new String[224];
            for (int c = 0; c < 224; c++) {
                marks[c] = said(t, c) < 0 ? "gap" : null;
            }
            return told(boxed(marks), i, what, 0);
        }

        int diff(int t, int u, int i, int what) {
            if (!has(t) || !has(u)) {
                return -1;
            }
            String[] marks = new String[224];
            for (int c = 0; c < 224; c++) {
                marks[c] = said(t, c) == said(u, c) ? null : said(t, c) + " " + said(u, c);
            }
            return told(boxed(marks), i, what, 2);
        }

        private List<Node> rules(int t) {
            List<Node> rules = new ArrayList<>();
            terms.get(t).rules(rules);
            return rules;
        }

        int rule(int t, int i) {
            if (!has(t)) {
                return -1;
            }
            List<Node> rules = rules(t);
            return i == -1 ? rules.size() : i >= 0 && i < rules.size() ? rules.get(i).number : -1;
        }

        int idle(int t, int i) {
            if (!has(t) || i < 0 || i >= rules(t).size()) {
                return -1;
            }
            for (int c = 0; c < 224; c++) {
                if (said(t, c) != plain(terms.get(t).says(c, null, 0, new int[] {i}))) {
                    return 0;
                }
            }
            return 1;
        }

        int overlap(int t, int u) {
            if (!has(t) || !has(u)) {
                return -1;
            }
            if (terms.get(t).box == null || terms.get(u).box == null) {
                return -5;
            }
            int many = 0;
            for (int c = 0; c < 224; c++) {
                many += terms.get(t).inBox(c) && terms.get(u).inBox(c) ? 1 : 0;
            }
            return many;
        }

        int would(int flat, int v, int t, int c) {
            if (!has(flat) || terms.get(flat).kind != 0 || !has(t) || c < 0 || c > 223) {
                return -1;
            }
            return v < 0 || v > 99 ? -2 : plain(terms.get(t).says(c, terms.get(flat), v, new int[] {-1}));
        }

        int paid(int c, int fee) {
            if (c == -1) {
                paid.clear();
                return 0;
            }
            if (c < 0 || c > 223) {
                return -1;
            }
            if (fee < -1 || fee > 99) {
                return -2;
            }
            if (paid.size() == 8) {
                return -4;
            }
            paid.add(new int[] {c, fee});
            return paid.size();
        }

        int fits(int flat, int t, int what) {
            if (!has(flat) || terms.get(flat).kind != 0 || !has(t) || what < 0 || what > 1) {
                return -1;
            }
            List<Integer> fitting = new ArrayList<>();
            for (int v = 0; v < 100; v++) {
                boolean fine = true;
                for (int[] slip : paid) {
                    int said = would(flat, v, t, slip[0]);
                    fine &= slip[1] == -1 ? said == -5 : said == slip[1];
                }
                if (fine) {
                    fitting.add(v);
                }
            }
            return what == 0 ? fitting.size() : fitting.isEmpty() ? -5 : fitting.get(0);
        }

        int till(int t, int seed, int n, int what) {
            if (!has(t) || what < 0 || what > 2) {
                return -1;
            }
            if (n < 1 || n > 40) {
                return -2;
            }
            long z = seed & 0xffffffffL;
            int[] told = {0, 0, -5};
            for (int k = 0; k < n; k++) {
                z = (z * 1664525 + 1013904223) & 0xffffffffL;
                int said = said(t, (int) (z % 0x80000000L / 256 % 224));
                told[0] += Math.max(said, 0);
                told[1] += said == -5 ? 1 : 0;
                told[2] = Math.max(told[2], said);
            }
            return told[what];
        }

        int rack(int r, int n) {
            if (r < 0 || r > 3) {
                return -1;
            }
            if (n > 70 || n < 0) {
                return n < 0 ? -14 : -2;
            }
            racks[r] = new int[n];
            return 1;
        }

        int put(int r, int i, int v) {
            if (r < 0 || r > 3) {
                return -1;
            }
            if (racks[r] == null || i < 0 || i >= racks[r].length) {
                return racks[r] == null ? -11 : -13;
            }
            racks[r][i] = v;
            return 1;
        }

        long get(int r, int i) {
            boolean there = r >= 0 && r < 4 && racks[r] != null && i >= 0 && i < racks[r].length;
            return there ? racks[r][i] : Long.MIN_VALUE;
        }

        int lay(int t, int r, int i) {
            if (!has(t) || r < 0 || r > 3) {
                return -1;
            }
            if (racks[r] == null) {
                return -11;
            }
            int parts = part(t, -1, 0);
            boolean all = true;
            for (int k = 0; k < 7 * parts; k++) {
                long place = (long) i + k;
                boolean there = i >= 0 && place < racks[r].length;
                all &= there;
                if (there) {
                    racks[r][(int) place] = part(t, k / 7, k % 7);
                }
            }
            return all ? 7 * parts : -13;
        }

        int judge(int r, int t) {
            if (!has(t) || r < 0 || r > 3) {
                return -1;
            }
            if (racks[r] == null) {
                return -11;
            }
            int[] row = racks[r];
            int[] most = {7, 7, 6, 6, 3, 3, 99};
            for (int k = 0; k < row.length; k++) {
                int place = k % 7;
                int least = place == 1 || place == 3 || place == 5 ? row[k - 1] : 0;
                if (row[k] < least || row[k] > most[place]) {
                    return k / 7 * 10 + place;
                }
            }
            if (row.length % 7 != 0) {
                return row.length / 7 * 10 + row.length % 7;
            }
            for (int c = 0; c < 224; c++) {
                int told = -5;
                for (int p = row.length / 7 - 1; p >= 0; p--) {
                    Node holder = node(2, -5, java.util.Arrays.copyOfRange(row, 7 * p, 7 * p + 6), null, null);
                    told = holder.inBox(c) ? row[7 * p + 6] : told;
                }
                if (told != said(t, c)) {
                    return 500 + c;
                }
            }
            return -5;
        }

        int image() {
            imageTerms = new ArrayList<>(terms);
            imagePaid = new ArrayList<>(paid);
            return terms.size();
        }

        int undo() {
            if (imageTerms == null) {
                return -3;
            }
            terms = new ArrayList<>(imageTerms);
            paid = new ArrayList<>(imagePaid);
            return terms.size();
        }

        int count(int what) {
            int whens = 0;
            int size = 0;
            for (Node n : terms) {
                whens += n.kind == 2 ? 1 : 0;
                size = Math.max(size, n.size());
            }
            switch (what) {
                case 0: return terms.size();
                case 1: return paid.size();
                case 2: return tape.length();
                case 3: return paper.length();
                case 4: return whens;
                case 5: return size;
                default: return -2;
            }
        }
    }

    /** A text read by a stack of what is still expected, no method calling itself. */
    private static final class Reading {
        private final String text;
        private final List<Node> ahead;
        private final StringBuilder expected = new StringBuilder("X");
        private final List<Node> open = new ArrayList<>();
        private final List<Integer> begun = new ArrayList<>();
        final List<Node> values = new ArrayList<>();
        final List<Node> made = new ArrayList<>();
        private int at = 0;
        private int within = 0;

        Reading(String text, List<Node> ahead) {
            this.text = text;
            this.ahead = ahead;
        }

        List<Integer> way() {
            List<Integer> way = new ArrayList<>();
            for (int k = begun.size() - 1; k >= 0; k--) {
                way.add(begun.get(k));
            }
            return way;
        }

        private char here() {
            return at < text.length() ? text.charAt(at) : 0;
        }

        private boolean figure() {
            return here() >= '0' && here() <= '9';
        }

        private int number() {
            int number = here() - '0';
            at++;
            if (figure()) {
                number = number * 10 + here() - '0';
                at++;
            }
            return number;
        }

        private void expect(String rest) {
            expected.append(new StringBuilder(rest).reverse());
        }

        /** The fault, or -1. */
        int run() {
            while (expected.length() > 0) {
                char next = expected.charAt(expected.length() - 1);
                expected.setLength(expected.length() - 1);
                int fault = step(next);
                if (fault >= 0) {
                    return fault;
                }
            }
            return at < text.length() ? at : -1;
        }

        private int step(char next) {
            if (next == 'X') {
                return begin();
            }
            if (next == 'e') {
                end();
                return -1;
            }
            if (next == 'f') {
                if (!figure()) {
                    return at;
                }
                open.get(open.size() - 1).fee = number();
                return -1;
            }
            if (next >= 'A' && next <= 'F') {
                return place(next - 'A');
            }
            if (here() != next || next == '(' && within == 6) {
                return at;
            }
            within += next == '(' ? 1 : next == ')' ? -1 : 0;
            at++;
            return -1;
        }

        private int place(int place) {
            int[] box = open.get(open.size() - 1).box;
            int most = new int[] {7, 6, 3}[place / 2];
            int v = here() - '0';
            if (!figure() || v > most || place % 2 == 1 && v < box[place - 1]) {
                return at;
            }
            box[place] = v;
            at++;
            return -1;
        }

        private int begin() {
            if (figure()) {
                Node flat = Model.node(0, number(), null, null, null);
                made.add(flat);
                values.add(flat);
                return -1;
            }
            if (here() == '-') {
                at++;
                Node none = Model.node(1, -5, null, null, null);
                made.add(none);
                values.add(none);
                return -1;
            }
            int kind = here() == 0 ? -1 : "#.?/+<^!".indexOf(here());
            if (kind < 0 || here() == '.') {
                return at;
            }
            begun.add(at);
            at++;
            return kind == 0 ? named() : composed(kind);
        }

        private int named() {
            int place = at;
            if (!figure()) {
                return at;
            }
            int number = number();
            if (number >= ahead.size()) {
                return place;
            }
            values.add(ahead.get(number));
            begun.remove(begun.size() - 1);
            return -1;
        }

        private int composed(int kind) {
            boolean boxed = kind == 2 || kind == 6;
            open.add(Model.node(kind, -5, boxed ? new int[6] : null, null, null));
            expect((boxed ? "ABCDEF" : "") + (kind == 6 ? ":f" : "") + (boxed ? "(X)e" : "(X,X)e"));
            return -1;
        }

        private void end() {
            Node node = open.remove(open.size() - 1);
            begun.remove(begun.size() - 1);
            if (node.box == null) {
                node.other = values.remove(values.size() - 1);
            }
            node.one = values.remove(values.size() - 1);
            made.add(node);
            values.add(node);
        }
    }
}
