import java.lang.reflect.InvocationTargetException;
import java.lang.reflect.Method;
import java.lang.reflect.Modifier;

/**
 * Every call with numbers at and beyond all edges, in several states: it answers,
 * and throws nothing. What is refused changes nothing.
 */
public final class EdgesTest {
    private static final int[] EDGES = {Integer.MIN_VALUE, -65, -2, -1, 0, 1, 3, 6, 8, 23, 24, 39, 60, 70, 99, 100, 127,
        128, 223, 224, 999999, 1000000, Integer.MAX_VALUE};
    private static final int[] FEWER = {Integer.MIN_VALUE, -1, 0, 4, 24, 224, Integer.MAX_VALUE};

    public static void main(String[] args) throws IllegalAccessException {
        for (int state = 0; state < 4; state++) {
            for (Method method : TariffBoxes.class.getDeclaredMethods()) {
                if (Modifier.isPublic(method.getModifiers())) {
                    callAll(state, method);
                }
            }
        }
        Dues.end("EdgesTest");
    }

    private static TariffBoxes prepared(int state) {
        TariffBoxes x = new TariffBoxes();
        if (state >= 1) {
            Dues.tell(x, "/(?131302(7),^001313:20(?063603(40)))");
            x.two(7, 1, 4);
            x.paid(45, 7);
            x.rack(0, 69);
            x.rack(1, 0);
            x.lay(5, 0, 0);
            x.spell(4);
            Dues.feed(x, "+(1,");
        }
        if (state >= 2) {
            x.image();
            for (int k = 0; k < 24; k++) {
                x.two(4, 1, 1);
                x.paid(k, k);
            }
            Dues.feed(x, "((((((((((((((((((((((((((((((((((((((((((((((((((((((((((((((((((((");
        }
        if (state == 3) {
            for (int k = 0; k < 24; k++) {
                x.drop();
            }
        }
        return x;
    }

    private static String told(TariffBoxes x) {
        StringBuilder text = new StringBuilder();
        for (int what = 0; what < 6; what++) {
            text.append(x.count(what)).append(' ');
        }
        for (int term = 0; term < x.count(0); term++) {
            for (int what = 0; what < 7; what++) {
                text.append(x.of(term, what)).append(' ');
            }
        }
        for (int i = 0; i < x.count(3); i++) {
            text.append((char) x.paper(i));
        }
        for (int rack = 0; rack < 4; rack++) {
            text.append(x.get(rack, 0)).append(x.get(rack, 68)).append(' ');
        }
        return text.append(Dues.way(x)).toString();
    }

    private static void callAll(int state, Method method) throws IllegalAccessException {
        int many = method.getParameterCount();
        int[] edges = many > 3 ? FEWER : EDGES;
        int rows = 1;
        for (int k = 0; k < many; k++) {
            rows *= edges.length;
        }
        String before = told(prepared(state));
        TariffBoxes x = prepared(state);
        for (int row = 0; row < rows; row++) {
            Object[] given = new Object[many];
            int rest = row;
            for (int k = 0; k < many; k++) {
                given[k] = edges[rest % edges.length];
                rest /= edges.length;
            }
            String call = "state " + state + ": " + method.getName() + java.util.Arrays.toString(given);
            long answer = answer(x, method, given, call);
            boolean refused = answer == Long.MIN_VALUE || answer < 0 && answer > -15;
            boolean looked = row % 17 == 0;
            if (refused && looked && !changing(method, answer)) {
                Dues.same(call + " leaves", told(x), before);
            }
            // an object is good for 512 calls, and a look takes many
            if (!refused || looked) {
                x = prepared(state);
            }
        }
    }

    /** A text is gone when it is read; what has a place is laid all the same. */
    private static boolean changing(Method method, long answer) {
        return method.getName().equals("read") || method.getName().equals("lay") && answer == -13;
    }

    private static long answer(TariffBoxes x, Method method, Object[] given, String call) throws IllegalAccessException {
        try {
            long answer = ((Number) method.invoke(x, given)).longValue();
            Dues.due(call + " is answered", 1, 1);
            return answer;
        } catch (InvocationTargetException e) {
            Dues.same(call, "" + e.getCause(), "answered");
            return Long.MIN_VALUE;
        }
    }
}
