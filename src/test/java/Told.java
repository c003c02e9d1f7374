import java.lang.reflect.InvocationTargetException;
import java.lang.reflect.Method;
import java.lang.reflect.Modifier;
import java.util.HashMap;
import java.util.Map;
import java.util.Set;
import java.util.TreeSet;

/** One object, and calls told to it as text, "take(0, 1)": no more of them than it is used for. */
final class Told {
    static final int BAD = -1, NO = -2, FULL = -3, NONE = -4;
    static final int MAX = Integer.MAX_VALUE, MIN = Integer.MIN_VALUE;
    private static final int MOST_CALLS = 512;
    private static final Map<String, Method> FACE = face();

    private final CabTears x = new CabTears();
    private int calls = 0;

    private static Map<String, Method> face() {
        Map<String, Method> face = new HashMap<>();
        for (Method m : CabTears.class.getDeclaredMethods()) {
            if (Modifier.isPublic(m.getModifiers())) face.put(m.getName(), m);
        }
        return face;
    }

    /** The names of all calls. */
    static Set<String> calls() {
        return new TreeSet<>(FACE.keySet());
    }

    /** The city of this TEXT, LAID. */
    static Told city(String letters) {
        Told t = new Told().text(letters).due(NONE, "fault()");
        int places = t.answer("lay()");
        if (places < 1) throw new IllegalStateException(letters + " is not LAID: " + places);
        return t.due(places, "count(0)");
    }

    int answer(String call) {
        calls++;
        if (calls > MOST_CALLS) throw new IllegalStateException("a test asks for more than " + MOST_CALLS + " calls");
        int open = call.indexOf('(');
        String inside = call.substring(open + 1, call.length() - 1).replace(" ", "");
        String[] figures = inside.isEmpty() ? new String[0] : inside.split(",");
        Object[] numbers = new Object[figures.length];
        for (int i = 0; i < figures.length; i++) numbers[i] = Integer.valueOf(figures[i]);
        try {
            return (int) (Integer) FACE.get(call.substring(0, open)).invoke(x, numbers);
        } catch (IllegalAccessException | InvocationTargetException thrown) {
            throw new IllegalStateException(call + " threw " + thrown.getCause(), thrown);
        }
    }

    /** How many calls more it is used for. */
    int left() {
        return MOST_CALLS - calls;
    }

    /** THE TEXT is this and nothing else. */
    Told text(String letters) {
        answer("wipe()");
        return more(letters);
    }

    /** These letters come behind THE TEXT. */
    Told more(String letters) {
        for (char letter : letters.toCharArray()) answer("write(" + (int) letter + ")");
        return this;
    }

    /** Calls whose answers others look at. */
    Told then(String... calls) {
        for (String call : calls) answer(call);
        return this;
    }

    /** Each of these calls answers so. */
    Told due(int want, String... calls) {
        for (String call : calls) Check.due(call, answer(call), want);
        return this;
    }

    /** The call with 0, 1, .. in the place of # answers these, one behind the other. */
    Told row(String call, int... wants) {
        for (int i = 0; i < wants.length; i++) due(wants[i], call.replace("#", "" + i));
        return this;
    }

    /** PLACE, step at which it is FREE, where one WEPT. */
    Told cab(int c, int place, int free, int wept) {
        return due(place, "cab(" + c + ", 1)").due(free, "cab(" + c + ", 2)").due(wept, "cab(" + c + ", 3)");
    }

    /** TAKEN, how LATE, WEPT. */
    Told fare(int f, int taken, int late, int wept) {
        return due(taken, "fare(" + f + ", 5)").due(late, "fare(" + f + ", 6)").due(wept, "fare(" + f + ", 7)");
    }

    /** FREE at, how LATE, WEEPS, by where one WEPT. */
    Told ride(int c, int f, int... wants) {
        return row("ride(" + c + ", " + f + ", #)", wants);
    }

    Told order(int weeping, int... fares) {
        due(weeping, "order(0)");
        for (int k = 1; k <= 7; k++) due(k <= fares.length ? fares[k - 1] : NONE, "order(" + k + ")");
        return due(BAD, "order(8)", "order(-1)");
    }

    Told rivals(int c, int e, int n, int outcome, int first) {
        return row("rivals(" + c + ", " + e + ", " + n + ", #)", outcome, first);
    }

    Told tears(int n, int x, int above, int below) {
        return row("tears(" + n + ", " + x + ", #)", above, below);
    }
}
