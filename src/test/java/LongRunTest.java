import java.lang.reflect.Array;
import java.lang.reflect.Field;
import java.lang.reflect.InvocationTargetException;
import java.lang.reflect.Method;
import java.lang.reflect.Modifier;
import java.util.ArrayDeque;
import java.util.HashMap;
import java.util.IdentityHashMap;
import java.util.Map;
import java.util.Random;

/** Runs as long as an object is used: THE TEXT is full, what can be UNDONE, is SEEN and is KEPT stands at its most. */
public final class LongRunTest {
    private static final int FULL = Told.FULL, NO = Told.NO, NONE = Told.NONE;
    private static final int RUNS = 300;

    public static void main(String[] args) {
        Check.test("512 calls: 200 letters written, told and LAID; 8 can be UNDONE, 6 are SEEN, 2 KEPT, by hand",
            LongRunTest::byHand);
        Check.test("512 calls: 200 letters with a FAULT at the very end are not LAID", LongRunTest::faultAtTheEnd);
        Check.test("512 calls: UNDONE, SEEN, KEPT at their most again and again, by hand", LongRunTest::againAndAgain);
        Check.test("512 calls by chance, all at its most, against the model", LongRunTest::byChance);
        Check.test("512 calls: the dearest ones, asked to the last call, answer alike", LongRunTest::dearest);
        Check.test("512 calls make an object no larger, and it is small", LongRunTest::room);
        Check.end();
    }

    /** 200 letters: 19 cities that are not, and a row of six PLACES that is. */
    private static final String FULL_TEXT = "g6,6;".repeat(18) + "g06,06;" + "g1,6;" + "c0,0,3;c1,5,5;c2,2,0;"
        + "f1,0,0,0,0;f0,1,4,0,4;f2,5,0,2,0;f3,2,3,9,0;f0,5,5,0,0;f1,3,1,5,0;f0,0,5,0,9;";

    private static void byHand() {
        Check.due("letters", FULL_TEXT.length(), 200);
        Told t = new Told();
        for (int i = 0; i < 200; i++) t.due(i + 1, "write(" + (int) FULL_TEXT.charAt(i) + ")");
        t.due(FULL, "write(59)").due(NONE, "fault()").due(6, "lay()").row("count(#)", 6, 6, 3, 7, 0, 0, 0, 0, 0, 0, 200);
        fill(t);
        t.due(FULL, "write(59)", "see(0, 0, 73)", "keep()").row("count(#)", 6, 6, 3, 7, 61, 6, 3, 6, 8, 2, 200);
        askedAtTheMost(t);
        undoneAndBack(t);
        t.due(6, "forget()").due(0, "forget()").due(200, "wipe()").due(NONE, "fault()").due(NO, "lay()");
        for (int now = 1; t.left() > 1; now++) t.due(now, "pass(1)");
        t.due(8, "count(8)");
        Check.due("calls that are left", t.left(), 0);
    }

    /** Nine changes, the first of which can be UNDONE no more, two of them behind what is KEPT; six are SEEN. */
    private static void fill(Told t) {
        t.due(0, "take(1, 4)").cab(1, 5, 0, NONE).fare(4, 1, 0, 0);
        t.due(5, "take(1, 0)").cab(1, 0, 5, 0).fare(0, 1, 5, 1);
        t.due(1 + 2 + 1 + 1, "take(0, 1)").cab(0, 4, 5, 4).fare(1, 1, 5, 1);
        t.due(2 + 1 + 3, "take(2, 3)").cab(2, 3, 15, NONE).fare(3, 1, 6, 0).due(1, "keep()").due(60, "pass(60)");
        t.due(60 + 3 + 5, "take(2, 6)").cab(2, 5, 68, 5).fare(6, 1, 68, 1).due(2, "keep()");
        t.due(60 + 4, "send(0, 0)").cab(0, 0, 64, 4);
        t.due(58 + 5 + 5 + 3, "take(1, 2)").cab(1, 0, 73, 0).fare(2, 1, 71, 0).due(8, "count(8)").due(61, "pass(1)");
        t.due(1, "see(0, 0, 73)").row("wept(0, #)", 1, 4).due(1, "kinds(0)");
        t.due(2, "see(1, 4, 91)").row("wept(1, #)", 1, 0).due(2, "kinds(1)");
        t.due(3, "see(2, 5, 77)").row("wept(2, #)", 1, 5).due(1 + 4, "kinds(2)");
        t.due(4, "see(0, 0, 73)").due(5, "see(1, 4, 91)").due(6, "see(2, 0, 73)").row("wept(2, #)", 1, 5).due(4, "kinds(2)");
    }

    /** One GIRL is left of REST, from 3 to 1. */
    private static void askedAtTheMost(Told t) {
        t.ride(0, 5, 64 + 3 + 1 + 1 + 3, 67, 1, 1).ride(1, 5, 73 + 3 + 3 + 3 + 1, 78, 1, 1);
        t.ride(2, 5, 68 + 2 + 2 + 1 + 4, 72, 1, 1).due(0, "soonest(5)").order(1, 5).row("waiting(0, #)", 0, 67).due(NO, "mends(3)", "mends(5)", "take(0, 0)");
        t.rivals(0, 1, 4, 11, 5).rivals(2, 1, 1, 11, 5).tears(1, 0, 1, 1).tears(2, 10, 0, 1);
        t.row("wept(0, #)", 1, 4).row("wept(1, #)", 1, 0).due(NONE, "fault()");
        t.row("count(#)", 6, 6, 3, 7, 61, 6, 3, 6, 8, 2, 200);
    }

    private static void undoneAndBack(Told t) {
        t.due(7, "undo()").due(60, "count(4)").due(6, "undo()").cab(1, 0, 5, 0).fare(2, 0, NONE, 0);
        t.due(5, "undo()").cab(0, 4, 5, 4).due(4, "undo()").cab(2, 3, 15, NONE).fare(6, 0, NONE, 0).due(3, "undo()");
        t.due(0, "count(4)").due(2, "undo()").cab(2, 2, 0, 0).due(1, "undo()").cab(0, 0, 0, 3).due(0, "undo()");
        t.cab(1, 5, 0, NONE).due(NO, "undo()").row("count(#)", 6, 6, 3, 7, 0, 1, 0, 6, 0, 2, 200);
        // what is SEEN is SEEN still, but as it stands now nothing is so
        t.row("wept(0, #)", 0, NONE).due(0, "kinds(0)").due(1, "back()").row("count(#)", 6, 6, 3, 7, 60, 5, 3, 6, 0, 1, 200);
        t.cab(0, 4, 5, 4).cab(1, 0, 5, 0).cab(2, 5, 68, 5).fare(6, 1, 68, 1).fare(2, 0, NONE, 0).due(NO, "undo()");
        t.due(0, "back()").row("count(#)", 6, 6, 3, 7, 0, 4, 2, 6, 0, 0, 200).cab(2, 3, 15, NONE).due(NO, "undo()", "back()");
    }

    private static void faultAtTheEnd() {
        int last = 200 - "f0,0,5,0,9;".length();
        String[] wrong = {"f0,0,5,0,9", "f0,0,6,0,9;", "f0,0,5,0,9,", "f4,0,5,0,9;", "f0,0,5,09;", "f0,0,5,0,61", "c0,0,0;"};
        for (String item : wrong) {
            Told t = new Told().more(FULL_TEXT.substring(0, last) + item);
            t.due(last, "fault()").due(NO, "lay()").due(16, "count(0)").due(last + item.length(), "count(10)");
            // to the last letter
            while (t.answer("count(10)") < 200) t.then("write(32)");
            t.due(FULL, "write(59)").due(last, "fault()").due(NO, "lay()").due(200, "count(10)");
            for (int i = 1; t.left() > 0; i++) t.due(60 * i, "pass(60)");
        }
    }

    /** A city of one PLACE, in which all that tells is what step it is. */
    private static void againAndAgain() {
        Told t = Told.city("g1,1;c0,0,0;f2,0,0,0,0;").more(" ".repeat(177)).due(FULL, "write(32)");
        int now = 0;
        while (t.left() > 60) {
            for (int i = 1; i <= 9; i++) t.due(now + i, "pass(1)");
            t.due(1, "keep()").due(now + 10, "pass(1)").due(2, "keep()").due(FULL, "keep()").due(now + 11, "pass(1)");
            for (int i = 1; i <= 6; i++) t.due(i, "see(0, 0, " + (now + 12) + ")");
            t.due(FULL, "see(0, 0, 0)").row("wept(0, #)", 1, 0).due(0, "kinds(0)").due(8, "count(8)");
            for (int i = 7; i >= 0; i--) t.due(i, "undo()");
            t.due(NO, "undo()").due(now + 3, "count(4)").row("wept(0, #)", 0, NONE).due(1, "back()").due(now + 10, "count(4)");
            t.due(NO, "undo()").due(0, "back()").due(now + 9, "count(4)").due(NO, "back()").due(6, "forget()");
            now += 9;
        }
        t.due(200, "wipe()").row("count(#)", 1, 1, 1, 1, now, 0, 0, 0, 0, 0, 0);
        while (t.left() > 1) t.due(now, "send(0, 0)");
        t.due(8, "count(8)");
    }

    // ---- by chance

    /** An object and the model, told the same calls. */
    private static final class Both {
        private static final Map<String, Method> MODEL = new HashMap<>();
        final Told told = new Told();
        final Model model = new Model();
        final Random random;

        Both(long seed) {
            random = new Random(seed);
            for (Method m : Model.class.getDeclaredMethods()) {
                if (Told.calls().contains(m.getName()) && m.getReturnType() == int.class) MODEL.put(m.getName(), m);
            }
        }

        boolean over() {
            return told.left() == 0;
        }

        int due(String call) {
            int open = call.indexOf('(');
            String inside = call.substring(open + 1, call.length() - 1).replace(" ", "");
            String[] figures = inside.isEmpty() ? new String[0] : inside.split(",");
            Object[] numbers = new Object[figures.length];
            for (int i = 0; i < figures.length; i++) numbers[i] = Integer.valueOf(figures[i]);
            try {
                return (int) (Integer) MODEL.get(call.substring(0, open)).invoke(model, numbers);
            } catch (IllegalAccessException | InvocationTargetException thrown) {
                throw new IllegalStateException(call, thrown);
            }
        }

        void ask(String call) {
            if (!over()) told.due(due(call), call);
        }

        /** A number from 0 to below n. */
        int below(int n) {
            return random.nextInt(n);
        }

        int cab() {
            return below(due("count(2)"));
        }

        int fare() {
            return below(due("count(3)"));
        }

        int place() {
            return below(due("count(0)"));
        }
    }

    private static String item(Both b, String letter, int... numbers) {
        StringBuilder s = new StringBuilder(letter);
        for (int i = 0; i < numbers.length; i++) {
            s.append(i == 0 ? "" : ",").append(numbers[i] < 10 && b.below(4) == 0 ? "0" : "").append(numbers[i]);
        }
        return s.append(';').toString();
    }

    /** 3 CABS, 7 FARES, and so many cities ahead of theirs that there are 200 letters. */
    private static String fullText(Both b) {
        int rows = 1 + b.below(6);
        int columns = 1 + b.below(6);
        int places = rows * columns;
        StringBuilder s = new StringBuilder(item(b, "g", rows, columns));
        for (int c = 0; c < 3; c++) s.append(item(b, "c", b.below(3), b.below(places), b.below(places)));
        for (int f = 0; f < 7; f++) {
            s.append(item(b, "f", b.below(4), b.below(places), b.below(places), b.below(60), b.below(61)));
        }
        StringBuilder ahead = new StringBuilder();
        int left = 200 - s.length();
        for (; left > 14; left -= 5) ahead.append("g" + (1 + b.below(6)) + "," + (1 + b.below(6)) + ";");
        for (int first = left / 2; left > 0; left -= first, first = left) {
            ahead.append(first == 5 ? "g6,1;" : first == 6 ? "g1,02;" : "g03,05;");
        }
        return ahead.append(s).toString();
    }

    private static void change(Both b) {
        switch (b.below(4)) {
            case 0 -> b.ask("send(" + b.cab() + ", " + b.place() + ")");
            case 1 -> b.ask("pass(" + (1 + b.below(60)) + ")");
            default -> b.ask("take(" + b.cab() + ", " + b.fare() + ")");
        }
    }

    private static void see(Both b) {
        int c = b.cab();
        int f = b.fare();
        int s = b.below(6) == 0 ? b.below(401) : b.due("ride(" + c + ", " + f + ", 0)");
        b.ask("see(" + c + ", " + f + ", " + s + ")");
    }

    private static void brim(Both b) {
        while (b.due("count(8)") < 8 && !b.over()) change(b);
        while (b.due("count(9)") < 2 && !b.over()) b.ask("keep()");
        while (b.due("count(7)") < 6 && !b.over()) see(b);
    }

    private static void asked(Both b) {
        int rest = b.due("count(3)") - b.due("count(5)");
        switch (b.below(15)) {
            case 0 -> b.ask("ride(" + b.cab() + ", " + b.fare() + ", " + b.below(4) + ")");
            case 1 -> b.ask("cab(" + b.cab() + ", " + b.below(4) + ")");
            case 2 -> b.ask("fare(" + b.fare() + ", " + b.below(8) + ")");
            case 3 -> b.ask("soonest(" + b.fare() + ")");
            case 4 -> b.ask(rest < 6 || b.below(30) == 0 ? "order(" + b.below(8) + ")" : "order(8)");
            case 5 -> b.ask("waiting(" + b.cab() + ", " + b.below(2) + ")");
            case 6 -> b.ask("round(" + b.below(2) + ")");
            case 7 -> b.ask("mends(" + b.fare() + ")");
            case 8 -> b.ask("rivals(" + b.cab() + ", " + b.cab() + ", " + (1 + b.below(4)) + ", " + b.below(2) + ")");
            case 9, 10 -> b.ask("wept(" + b.cab() + ", " + b.below(2) + ")");
            case 11 -> b.ask("kinds(" + b.cab() + ")");
            case 12 -> b.ask("tears(" + b.below(8) + ", " + b.below(11) + ", " + b.below(2) + ")");
            case 13 -> b.ask("year(" + b.below(10000) + ", " + (1 + b.below(40)) + ", " + b.below(2) + ")");
            default -> b.ask("count(" + b.below(11) + ")");
        }
    }

    private static void oneRun(Both b) {
        String text = fullText(b);
        Check.due("letters of " + text, text.length(), 200);
        for (char letter : text.toCharArray()) b.ask("write(" + (int) letter + ")");
        b.ask("write(59)");
        b.ask("fault()");
        Check.due("it is LAID: " + text, b.due("fault()"), NONE);
        b.ask("lay()");
        while (!b.over()) {
            brim(b);
            for (int what = 4; what <= 10; what++) b.ask("count(" + what + ")");
            b.ask("see(0, 0, 0)");
            b.ask("keep()");
            for (int i = 0; i < 30; i++) asked(b);
            change(b);
            switch (b.below(5)) {
                case 0 -> b.ask("back()");
                case 1 -> b.ask("forget()");
                case 2 -> b.ask("lay()");
                default -> {
                    for (int i = b.below(10); i >= 0; i--) b.ask("undo()");
                }
            }
            for (int i = 0; i < 5; i++) asked(b);
        }
    }

    private static void byChance() {
        for (int seed = 0; seed < RUNS; seed++) oneRun(new Both(seed));
    }

    // ---- how much it takes

    /** 3 CABS, 7 FARES and 36 PLACES; no FARE is TAKEN. */
    private static final String LARGE = "g6,6;c0,0,35;c1,35,0;c2,17,3;" + "f0,1,34,0,9;f3,30,5,3,20;f0,12,8,9,25;f2,35,0,2,0;"
        + "f0,22,19,14,30;f3,7,28,20,1;f0,4,31,11,18;";

    private static void dearest() {
        String[] calls = {"order(0)", "order(7)", "rivals(0, 1, 4, 0)", "rivals(2, 1, 4, 1)", "tears(3, 4, 0)", "round(0)",
            "round(1)", "waiting(2, 1)", "year(9999, 40, 1)", "mends(1)", "wept(0, 0)", "kinds(2)", "fault()"};
        Model model = new Model();
        for (char letter : LARGE.toCharArray()) model.write(letter);
        model.lay();
        int[] due = {model.order(0), model.order(7), model.rivals(0, 1, 4, 0), model.rivals(2, 1, 4, 1), model.tears(3, 4, 0),
            model.round(0), model.round(1), model.waiting(2, 1), model.year(9999, 40, 1), model.mends(1), 37, 7, NONE};
        for (int i = 0; i < calls.length; i++) {
            Told t = Told.city(LARGE);
            while (t.left() > 0) t.due(due[i], calls[i]);
        }
    }

    /** {objects and arrays, fields and elements} that can be reached from it. */
    private static int[] size(Object root) {
        IdentityHashMap<Object, Boolean> met = new IdentityHashMap<>();
        ArrayDeque<Object> open = new ArrayDeque<>();
        open.add(root);
        met.put(root, true);
        int elements = 0;
        while (!open.isEmpty()) {
            Object o = open.removeFirst();
            Object[] inside = o.getClass().isArray() ? elements(o) : fields(o);
            elements += inside.length;
            for (Object one : inside) {
                if (one != null && !(one instanceof Number) && !(one instanceof Character) && !(one instanceof Boolean)
                    && met.put(one, true) == null) {
                    open.add(one);
                }
            }
        }
        return new int[] {met.size(), elements};
    }

    private static Object[] elements(Object array) {
        Object[] all = new Object[Array.getLength(array)];
        for (int i = 0; i < all.length; i++) all[i] = Array.get(array, i);
        return all;
    }

    private static Object[] fields(Object o) {
        ArrayDeque<Object> values = new ArrayDeque<>();
        try {
            for (Field f : o.getClass().getDeclaredFields()) {
                if (Modifier.isStatic(f.getModifiers())) continue;
                f.setAccessible(true);
                Object value = f.get(o);
                values.add(value == null ? Boolean.FALSE : value);
            }
        } catch (IllegalAccessException closed) {
            throw new IllegalStateException(closed);
        }
        return values.toArray();
    }

    private static void room() {
        CabTears x = new CabTears();
        int[] before = size(x);
        Check.due("objects: " + before[0], before[0] < 400 ? 1 : 0, 1);
        Check.due("elements: " + before[1], before[1] < 4000 ? 1 : 0, 1);
        for (int i = 0; i < LARGE.length(); i++) x.write(LARGE.charAt(i));
        x.lay();
        for (int i = 0; i < 25; i++) {
            x.order(i % 8);
            x.rivals(0, 1, 4, 0);
            x.tears(2, 3, 0);
            x.round(0);
            x.year(i, 40, 0);
            x.waiting(0, 0);
            x.mends(1);
            x.see(0, 0, i);
            x.keep();
            x.pass(1);
            x.send(0, i);
            x.take(i % 3, i % 7);
            x.undo();
            x.back();
            x.fault();
        }
        int[] behind = size(x);
        Check.due("objects behind the run", behind[0], before[0]);
        Check.due("elements behind the run", behind[1], before[1]);
    }
}
