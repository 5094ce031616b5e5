import java.lang.reflect.InvocationTargetException;
import java.lang.reflect.Method;
import java.lang.reflect.Modifier;
import java.util.Arrays;
import java.util.Map;
import java.util.Set;

/**
 * Every call with every pair of its arguments at edges (the others being right), on an empty, a used and a full desk:
 * it answers as SlowDesk does, and the machine throws nothing.
 */
public final class PairsTest {
    private static final int[] EDGES = {Integer.MIN_VALUE, -2, -1, 0, 1, 2, 3, 4, 5, 7, 8, 9, 15, 16, 20, 21, 30, 32,
        60, 100, 101, 127, 128, 300, 301, 364, 365, 900, 901, Integer.MAX_VALUE - 1, Integer.MAX_VALUE};
    /** Right arguments where they are not all 0. */
    private static final Map<String, int[]> RIGHT = Map.of(
            "person", new int[] {0, 1, 0, 0, 0},
            "extend", new int[] {0, 12},
            "place", new int[] {127, 0, 0, 1, 1},
            "bar", new int[] {0, 1, 1},
            "when", new int[] {0, 1},
            "sheet", new int[] {0, 8, 1});
    /** What these change can't be undone. */
    private static final Set<String> FOR_GOOD = Set.of("sheet", "put", "copy", "undo");
    private static final Set<String> ACTS = Set.of("person", "extend", "free", "place", "open", "bar", "entry", "strike",
            "rule", "absent", "reason", "lay");

    private final String[] state;
    private HoursDesk fast;
    private SlowDesk slow;

    private PairsTest(String... state) {
        this.state = state;
    }

    public static void main(String[] args) throws Exception {
        PairsTest[] states = {new PairsTest(), used(), full()};
        for (PairsTest test : states) {
            for (Method method : HoursDesk.class.getDeclaredMethods()) {
                if (Modifier.isPublic(method.getModifiers())) {
                    test.allPairs(method);
                }
            }
        }
        Due.end();
    }

    private static PairsTest used() {
        return new PairsTest("person 0 2 127 1 10", "person 2 1 127 3 364", "person 3 5 85 2 0", "place 127 1 0 1 2",
                "place 3 2 1 1 8", "bar 0 2 1", "entry 0 0 100 0 0", "entry 0 3 61 2 5", "entry 1 1 200 1 1",
                "absent 0 3", "absent 0 9", "reason 0 20", "sheet 0 8 3", "put 0 1 -1", "sheet 1 16 20", "sheet 2 8 0");
    }

    private static PairsTest full() {
        return new PairsTest("person 0 8 127 1 10", "person 1 300 127 3 364", "person 2 5 127 2 0", "person 3 5 127 15 0",
                "person 0 1 127 1 10", "person 1 1 127 3 364", "person 2 5 64 2 0", "person 3 5 85 15 0",
                "place 127 1 0 1 3", "place 127 2 1 2 2", "place 127 0 0 2 8", "bar 0 7 1", "bar 2 3 1",
                "sheet 0 8 20", "put 0 3 100", "lay 0 0 0", "lay 1 0 0", "lay 2 345 0",
                "sheet 1 8 1", "sheet 2 32 20", "sheet 3 32 1", "put 2 0 480").withAbsences();
    }

    private PairsTest withAbsences() {
        String[] more = Arrays.copyOf(state, state.length + 30);
        for (int i = 0; i < 30; i++) {
            more[state.length + i] = "absent " + i % 2 + " " + 12 * i;
        }
        return new PairsTest(more);
    }

    private void begin() throws Exception {
        fast = new HoursDesk();
        slow = new SlowDesk();
        for (String text : state) {
            String[] words = text.split(" ");
            int[] args = new int[words.length - 1];
            for (int i = 0; i < args.length; i++) {
                args[i] = Integer.parseInt(words[i + 1]);
            }
            for (Method method : HoursDesk.class.getDeclaredMethods()) {
                if (method.getName().equals(words[0])) {
                    int answer = answer(fast, method, args);
                    Due.that("prepared: " + text, answer == answer(slow, method, args) && answer > -99999);
                }
            }
        }
    }

    private static int answer(Object desk, Method method, int[] args) throws Exception {
        Class<?>[] types = method.getParameterTypes();
        Object[] values = new Object[types.length];
        for (int i = 0; i < types.length; i++) {
            if (types[i] == boolean.class) {
                values[i] = args[i] != 0;
            } else {
                values[i] = args[i];
            }
        }
        Method called = desk instanceof HoursDesk ? method : SlowDesk.class.getDeclaredMethod(method.getName(), types);
        try {
            return (Integer) called.invoke(desk, values);
        } catch (InvocationTargetException e) {
            System.out.println(method.getName() + Arrays.toString(args) + " threw " + e.getCause());
            return Integer.MIN_VALUE;
        }
    }

    private void allPairs(Method method) throws Exception {
        int n = method.getParameterCount();
        int[] right = RIGHT.getOrDefault(method.getName(), new int[n]);
        begin();
        ask(method, right.clone());
        for (int i = 0; i < n; i++) {
            for (int j = i; j < n; j++) {
                pair(method, right, i, j);
            }
        }
    }

    private void pair(Method method, int[] right, int i, int j) throws Exception {
        for (int a : EDGES) {
            for (int b : EDGES) {
                if (i != j || a == b) {
                    int[] args = right.clone();
                    args[i] = a;
                    args[j] = b;
                    ask(method, args);
                }
            }
        }
    }

    private void ask(Method method, int[] args) throws Exception {
        int got = answer(fast, method, args);
        Due.is(state.length + " calls, " + method.getName() + Arrays.toString(args), got, answer(slow, method, args));
        if (got < -99999) {
            return;
        }
        if (FOR_GOOD.contains(method.getName())) {
            begin();
        } else if (ACTS.contains(method.getName())) {
            Due.is("undo", fast.undo(), slow.undo());
        }
        Due.is("findings", fast.told(5), slow.told(5));
    }
}
