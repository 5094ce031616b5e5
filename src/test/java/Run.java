import java.lang.reflect.Method;
import java.util.ArrayList;
import java.util.HashMap;
import java.util.List;
import java.util.Map;

/**
 * A run of calls on a new object. The calls are texts, as the document would write them, so that the run can be made
 * again; MIN and MAX are the lowest and the highest int.
 */
final class Run {
    private static final Map<String, Method> METHODS = methods();

    private final HoursDesk desk = new HoursDesk();
    private final List<String> made = new ArrayList<>();

    private static Map<String, Method> methods() {
        Map<String, Method> byName = new HashMap<>();
        for (Method m : HoursDesk.class.getDeclaredMethods()) {
            if (java.lang.reflect.Modifier.isPublic(m.getModifiers())) {
                byName.put(m.getName(), m);
            }
        }
        return byName;
    }

    static int call(HoursDesk x, String text) {
        int bracket = text.indexOf('(');
        String inside = text.substring(bracket + 1, text.length() - 1).trim();
        String[] words = inside.isEmpty() ? new String[0] : inside.split(",\\s*");
        Object[] args = new Object[words.length];
        for (int i = 0; i < words.length; i++) {
            args[i] = argument(words[i]);
        }
        try {
            return (Integer) METHODS.get(text.substring(0, bracket)).invoke(x, args);
        } catch (ReflectiveOperationException e) {
            throw new IllegalStateException(text, e);
        }
    }

    private static Object argument(String word) {
        switch (word) {
            case "true":
            case "false":
                return word.equals("true");
            case "MIN":
                return Integer.MIN_VALUE;
            case "MAX":
                return Integer.MAX_VALUE;
            default:
                return Integer.valueOf(word);
        }
    }

    static boolean isFinding(int answer) {
        return answer < -99999;
    }

    HoursDesk again() {
        HoursDesk x = new HoursDesk();
        for (String text : made) {
            call(x, text);
        }
        return x;
    }

    private int next(String text) {
        int answer = call(desk, text);
        made.add(text);
        return answer;
    }

    /** Calls that only prepare a test; one that is refused would prepare another one than is meant. */
    Run does(String... calls) {
        for (String text : calls) {
            int answer = next(text);
            if (isFinding(answer)) {
                Due.is(Doc.here() + text + ", which prepares,", answer, 0);
            }
        }
        return this;
    }

    /** A call n times, # in it being 0, 1, .. */
    Run times(int n, String text) {
        for (int i = 0; i < n; i++) {
            does(text.replace("#", String.valueOf(i)));
        }
        return this;
    }

    /** A call n times, whatever it answers. */
    Run asks(int n, String text) {
        for (int i = 0; i < n; i++) {
            next(text);
        }
        return this;
    }

    /** An answer that is due; where it is a finding, the call must have changed nothing, too. */
    Run due(String text, int want) {
        if (isFinding(want)) {
            Twins.areSame(this, text);
        }
        Due.is(Doc.here() + text, next(text), want);
        return this;
    }

    /** Calls of which each answers the same. */
    Run allDue(int want, String... calls) {
        for (String text : calls) {
            due(text, want);
        }
        return this;
    }
}
