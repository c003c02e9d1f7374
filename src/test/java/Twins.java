import java.util.ArrayList;
import java.util.List;
import java.util.function.Consumer;

/**
 * Two objects brought to the same stand, and to one of them some calls more: whether these changed anything
 * is told by all later calls, one kind of them after another, each on a new pair.
 */
final class Twins {
    /** A way in which later calls look at an object; what they answer. */
    private interface Later {
        void look(Eye eye);
    }

    /** Asks one object, and keeps what it answered. */
    private static final class Eye {
        final Told told;
        final List<String> answers = new ArrayList<>();

        Eye(Told told) {
            this.told = told;
        }

        void ask(String... calls) {
            for (String call : calls) answers.add(call + " = " + told.answer(call));
        }

        void each(String call, int from, int to) {
            for (int i = from; i <= to; i++) ask(call.replace("#", "" + i));
        }

        void stand() {
            each("count(#)", 0, 10);
            for (int c = 0; c < 3; c++) each("cab(" + c + ", #)", 1, 3);
            for (int f = 0; f < 7; f++) each("fare(" + f + ", #)", 5, 7);
        }
    }

    private Twins() {
    }

    private static List<Later> laters() {
        return List.of(Twins::laid, Twins::comes, Twins::undone, Twins::kept, Twins::text, Twins::changes, Twins::seen);
    }

    private static void laid(Eye eye) {
        eye.stand();
        eye.each("far(0, #)", 0, 6);
        eye.each("cab(#, 0)", 0, 3);
        for (int f = 0; f < 7; f++) eye.each("fare(" + f + ", #)", 0, 4);
        eye.ask("fault()", "wipe()", "fault()");
        eye.stand();
    }

    private static void comes(Eye eye) {
        for (int c = 0; c < 3; c++) {
            for (int f = 0; f < 7; f++) eye.ask("ride(" + c + ", " + f + ", 0)");
            eye.ask("waiting(" + c + ", 0)", "waiting(" + c + ", 1)");
        }
        eye.each("soonest(#)", 0, 6);
        eye.each("order(#)", 0, 7);
        eye.each("round(#)", 0, 1);
        eye.each("mends(#)", 0, 6);
        eye.each("rivals(0, 1, 4, #)", 0, 1);
        eye.each("rivals(1, 0, 3, #)", 0, 1);
        for (int n = 1; n <= 5; n += 2) eye.each("tears(" + n + ", 3, #)", 0, 1);
        eye.each("year(77, 30, #)", 0, 1);
        eye.stand();
    }

    private static void undone(Eye eye) {
        for (int i = 0; i < 4; i++) {
            eye.ask("undo()");
            eye.stand();
        }
        for (int i = 0; i < 6; i++) eye.ask("undo()", "count(4)", "count(5)", "cab(0, 1)", "cab(0, 2)");
    }

    private static void kept(Eye eye) {
        for (int i = 0; i < 3; i++) {
            eye.ask("back()");
            eye.stand();
            eye.ask("undo()");
        }
        eye.ask("keep()", "keep()", "keep()");
    }

    private static void text(Eye eye) {
        for (char letter : ";c0,0,0;f0,1,2,3,4;".toCharArray()) eye.ask("write(" + (int) letter + ")", "fault()");
        eye.ask("lay()");
        eye.stand();
        eye.each("fare(0, #)", 0, 4);
    }

    private static void changes(Eye eye) {
        for (int f = 0; f < 7; f++) eye.ask("take(1, " + f + ")", "send(0, " + f + ")", "pass(" + (f + 1) + ")");
        eye.stand();
        eye.ask("undo()", "keep()", "lay()", "back()");
        eye.stand();
    }

    private static void seen(Eye eye) {
        for (int c = 0; c < 3; c++) eye.ask("wept(" + c + ", 0)", "wept(" + c + ", 1)", "kinds(" + c + ")");
        for (int i = 0; i < 7; i++) eye.ask("see(0, 0, " + i + ")", "wept(0, 0)", "kinds(0)");
        eye.ask("forget()", "wept(0, 0)", "see(1, 0, 6)", "wept(1, 0)", "wept(0, 0)", "kinds(1)");
        eye.stand();
    }

    /** No later call tells whether the object was also told these calls. */
    static void alike(String what, Consumer<Told> bring, Consumer<Told> between) {
        for (Later later : laters()) {
            Told one = new Told();
            Told other = new Told();
            bring.accept(one);
            bring.accept(other);
            between.accept(other);
            Eye due = new Eye(one);
            Eye got = new Eye(other);
            later.look(due);
            later.look(got);
            for (int i = 0; i < due.answers.size(); i++) {
                boolean same = due.answers.get(i).equals(got.answers.get(i));
                Check.due("behind " + what + ": " + got.answers.get(i) + ", without it " + due.answers.get(i), same ? 1 : 0, 1);
                if (!same) return;
            }
        }
    }

    static void alike(String call, Consumer<Told> bring) {
        alike(call, bring, t -> t.then(call));
    }
}
