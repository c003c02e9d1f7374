import java.util.List;
import java.util.function.Consumer;

/** Every number of every call: the last that is told and the first that is not; nothing changes behind what is refused. */
public final class RefusedTest {
    private static final int BAD = Told.BAD, NO = Told.NO, FULL = Told.FULL, NONE = Told.NONE;
    private static final int MAX = Told.MAX, MIN = Told.MIN;
    private static final String TOWN = "g2,3;c0,0,3;c1,5,2;c2,4,0;f0,1,4,0,9;f3,2,2,5,0;f1,3,1,0,3;f2,4,0,3,0;f0,5,5,9,1;";
    /** All that can be asked without changing anything. */
    private static final String[] ASKED = {"fault()", "far(0, 5)", "cab(1, 0)", "cab(0, 3)", "fare(2, 6)", "fare(1, 0)",
        "ride(0, 0, 0)", "ride(1, 1, 1)", "ride(2, 2, 2)", "ride(0, 4, 3)", "soonest(0)", "soonest(4)", "order(0)", "order(5)",
        "waiting(0, 0)", "waiting(2, 1)", "round(0)", "round(1)", "mends(1)", "rivals(0, 1, 1, 0)", "rivals(2, 1, 4, 1)",
        "wept(0, 0)", "wept(1, 1)", "kinds(0)", "kinds(2)", "tears(0, 0, 0)", "tears(3, 4, 1)", "year(0, 1, 0)",
        "year(9999, 40, 1)", "count(0)", "count(10)"};

    public static void main(String[] args) {
        Check.test("write(letter): 32 to 126", () -> number("write(#)", 32, 126));
        Check.test("far(a, b): a such as there are", () -> numberOf("far(#, 0)", 0));
        Check.test("far(a, b): b such as there are", () -> numberOf("far(0, #)", 0));
        Check.test("cab(c, what): c such as there are", () -> numberOf("cab(#, 0)", 2));
        Check.test("cab(c, what): what 0 to 3", () -> number("cab(0, #)", 0, 3));
        Check.test("fare(f, what): f such as there are", () -> numberOf("fare(#, 0)", 3));
        Check.test("fare(f, what): what 0 to 7", () -> number("fare(0, #)", 0, 7));
        Check.test("take(c, f): c such as there are", () -> numberOf("take(#, 0)", 2));
        Check.test("take(c, f): f such as there are", () -> numberOf("take(0, #)", 3));
        Check.test("send(c, p): c such as there are", () -> numberOf("send(#, 0)", 2));
        Check.test("send(c, p): p such as there are", () -> numberOf("send(0, #)", 0));
        Check.test("pass(n): 1 to 60", () -> number("pass(#)", 1, 60));
        Check.test("ride(c, f, what): c such as there are", () -> numberOf("ride(#, 0, 0)", 2));
        Check.test("ride(c, f, what): f such as there are", () -> numberOf("ride(0, #, 0)", 3));
        Check.test("ride(c, f, what): what 0 to 3", () -> number("ride(0, 0, #)", 0, 3));
        Check.test("soonest(f): such as there are", () -> numberOf("soonest(#)", 3));
        Check.test("order(k): 0 to 7", () -> number("order(#)", 0, 7));
        Check.test("waiting(c, what): c such as there are", () -> numberOf("waiting(#, 0)", 2));
        Check.test("waiting(c, what): what 0 or 1", () -> number("waiting(0, #)", 0, 1));
        Check.test("round(what): 0 or 1", () -> number("round(#)", 0, 1));
        Check.test("mends(f): such as there are", () -> numberOf("mends(#)", 3));
        Check.test("rivals(c, e, n, what): c such as there are", RefusedTest::rivalsFirst);
        Check.test("rivals(c, e, n, what): e such as there are", RefusedTest::rivalsSecond);
        Check.test("rivals(c, e, n, what): n 1 to 4", () -> number("rivals(0, 1, #, 0)", 1, 4));
        Check.test("rivals(c, e, n, what): what 0 or 1", () -> number("rivals(0, 1, 2, #)", 0, 1));
        Check.test("see(c, f, s): c such as there are", () -> numberOf("see(#, 0, 0)", 2));
        Check.test("see(c, f, s): f such as there are", () -> numberOf("see(0, #, 0)", 3));
        Check.test("see(c, f, s): s 0 to 400", () -> number("see(0, 0, #)", 0, 400));
        Check.test("wept(c, what): c such as there are", () -> numberOf("wept(#, 0)", 2));
        Check.test("wept(c, what): what 0 or 1", () -> number("wept(0, #)", 0, 1));
        Check.test("kinds(c): such as there are", () -> numberOf("kinds(#)", 2));
        Check.test("tears(n, x, part): n 0 to 7", () -> number("tears(#, 5, 0)", 0, 7));
        Check.test("tears(n, x, part): x 0 to 10", () -> number("tears(1, #, 0)", 0, 10));
        Check.test("tears(n, x, part): part 0 or 1", () -> number("tears(1, 5, #)", 0, 1));
        Check.test("year(z, n, what): z 0 to 9999", () -> number("year(#, 3, 0)", 0, 9999));
        Check.test("year(z, n, what): n 1 to 40", () -> number("year(3, #, 0)", 1, 40));
        Check.test("year(z, n, what): what 0 or 1", () -> number("year(3, 3, #)", 0, 1));
        Check.test("count(what): 0 to 10", () -> number("count(#)", 0, 10));
        Check.test("nothing changes: take NO", () -> refused(NO, "take(0, 0)", "take(2, 0)"));
        Check.test("nothing changes: mends NO", () -> refused(NO, "mends(0)", "mends(2)", "mends(3)"));
        Check.test("nothing changes: undo NO", RefusedTest::undoNo);
        Check.test("nothing changes: back NO", RefusedTest::backNo);
        Check.test("nothing changes: lay NO, without a CAB, without a FARE, with a FAULT", RefusedTest::layNo);
        Check.test("nothing changes: write FULL, see FULL, keep FULL", RefusedTest::full);
        Check.test("nothing changes: NONE", RefusedTest::none);
        Check.test("nothing changes: what is asked", RefusedTest::asked);
        Check.test("nothing changes: another TEXT written, its FAULT asked, not LAID", RefusedTest::otherText);
        Check.test("nothing changes: many refused, one behind the other", RefusedTest::manyRefused);
        Check.end();
    }

    /** How it stands at first. */
    private static void first(Told t) {
        t.due(16, "count(0)");
    }

    /** A town in which a bit of everything has been told. */
    private static void evening(Told t) {
        t.text(TOWN).due(6, "lay()").then("wipe()").more("g1,4")
            .then("take(0, 0)", "pass(5)", "keep()", "send(1, 4)", "take(1, 2)");
        t.then("see(0, 1, 20)", "see(2, 3, 11)").due(4, "count(8)").due(2, "count(5)", "count(7)").due(1, "count(9)");
    }

    /** All that can be FULL is, all FARES are TAKEN. */
    private static void brim(Told t) {
        t.more("x".repeat(200));
        for (int f = 0; f < 6; f++) t.then("take(" + f % 3 + ", " + f + ")", "see(" + f % 3 + ", " + f + ", " + 9 * f + ")");
        t.then("keep()", "pass(60)", "send(0, 5)", "keep()", "send(1, 6)", "pass(1)");
        t.due(8, "count(8)").due(6, "count(5)", "count(7)").due(2, "count(9)").due(200, "count(10)");
    }

    private static List<Consumer<Told>> stands() {
        return List.of(RefusedTest::first, RefusedTest::evening, RefusedTest::brim);
    }

    private static String with(String call, long number) {
        return call.replace("#", "" + number);
    }

    private static boolean wrongNumber(String call, Consumer<Told> bring, long number) {
        Told t = new Told();
        bring.accept(t);
        return t.answer(with(call, number)) == BAD;
    }

    /** On this stand the numbers from the least to the most are told, no others; behind others nothing has changed. */
    private static void between(String call, Consumer<Told> bring, int least, int most) {
        for (long n : new long[] {least, least + 1, (least + most) / 2, most - 1, most}) {
            if (n >= least && n <= most) Check.due(with(call, n) + " is BAD", wrongNumber(call, bring, n) ? 1 : 0, 0);
        }
        long[] wrong = {least - 1, least - 2, most + 1, most + 2, -most - 1, least + 256, least - 256, least + 65536,
            most - 65536, MAX, MAX - 1, MIN, MIN + 1, MIN + most, 1 << 30};
        for (long n : wrong) {
            if (n >= least && n <= most) continue;
            Check.due(with(call, n) + " is BAD", wrongNumber(call, bring, n) ? 1 : 0, 1);
        }
        for (long n : new long[] {least - 1, most + 1, MAX, MIN}) Twins.alike(with(call, n), bring);
    }

    private static void number(String call, int least, int most) {
        for (Consumer<Told> bring : stands()) between(call, bring, least, most);
    }

    /** As many as there are of it: PLACES (0), CABS (2) or FARES (3), as count(of) tells. */
    private static void numberOf(String call, int of) {
        int[] places = {16, 6, 16}, cabs = {3, 3, 3}, fares = {6, 5, 6};
        int[] many = of == 0 ? places : of == 2 ? cabs : fares;
        for (int i = 0; i < 3; i++) between(call, stands().get(i), 0, many[i] - 1);
        Consumer<Told> least = t -> t.text("g1,1;c0,0,0;f3,0,0,0,0;").due(1, "lay()", "count(0)", "count(2)", "count(3)");
        between(call, least, 0, 0);
        Consumer<Told> most = t -> t.text("g6,6;c0,0,1;c0,0,1;c0,0,1;" + "f3,0,1,0,0;".repeat(7)).due(36, "lay()");
        between(call, most, 0, of == 0 ? 35 : of == 2 ? 2 : 6);
    }

    private static void rivalsFirst() {
        for (Consumer<Told> bring : stands()) {
            between("rivals(#, 2, 1, 0)", bring, 0, 1);
            between("rivals(#, 0, 1, 0)", bring, 1, 2);
        }
    }

    private static void rivalsSecond() {
        for (Consumer<Told> bring : stands()) {
            between("rivals(2, #, 1, 1)", bring, 0, 1);
            between("rivals(0, #, 1, 1)", bring, 1, 2);
        }
    }

    private static void refused(int due, String... calls) {
        refusedOn(due, RefusedTest::evening, calls);
    }

    private static void refusedOn(int due, Consumer<Told> bring, String... calls) {
        for (String call : calls) {
            Told t = new Told();
            bring.accept(t);
            t.due(due, call);
            Twins.alike(call, bring);
            Twins.alike(call + " twice", bring, x -> x.then(call, call));
        }
    }

    private static void undoNo() {
        refusedOn(NO, RefusedTest::first, "undo()");
        refusedOn(NO, t -> {
            evening(t);
            t.then("undo()", "undo()", "undo()", "undo()");
        }, "undo()");
        refusedOn(NO, t -> {
            brim(t);
            t.then("back()");
        }, "undo()");
    }

    private static void backNo() {
        refusedOn(NO, RefusedTest::first, "back()");
        refusedOn(NO, t -> {
            evening(t);
            t.then("back()", "take(0, 3)", "pass(9)");
        }, "back()");
    }

    private static void layNo() {
        refusedOn(NO, RefusedTest::first, "lay()");
        refusedOn(NO, RefusedTest::evening, "lay()");
        refusedOn(NO, RefusedTest::brim, "lay()");
        for (String text : new String[] {"", "c0,0,0;", "f0,0,0,0,0;", "g1,1;c0,0,0;", "g1,1;f0,0,0,0,0;",
            "c0,0,0;f0,0,0,0,0;c3,0,0;",
            "g2,2;c1,3,3;f3,3,3,9,9;x"}) {
            refusedOn(NO, t -> {
                evening(t);
                t.text(text);
            }, "lay()");
        }
    }

    private static void full() {
        refusedOn(FULL, RefusedTest::brim, "write(59)", "write(32)", "write(126)", "see(0, 0, 0)", "see(2, 5, 400)", "keep()");
    }

    private static void none() {
        refusedOn(NONE, RefusedTest::evening, "fare(1, 6)", "order(4)", "order(7)");
        refusedOn(NONE, RefusedTest::brim, "order(1)", "rivals(0, 1, 4, 1)");
        refusedOn(NONE, RefusedTest::first, "cab(1, 3)", "fare(0, 6)", "fault()", "order(7)");
        refusedOn(NONE, t -> t.then("see(0, 0, 0)"), "wept(0, 1)");
        String never = "g5,6;c2,23,23;c2,22,16;c2,16,13;f2,12,22,9,7;f3,23,20,14,7;f0,1,16,16,10;f3,1,23,16,14;";
        refusedOn(NONE, t -> t.text(never).then("lay()"), "round(0)", "round(1)");
    }

    private static void asked() {
        for (Consumer<Told> bring : stands()) {
            for (String call : ASKED) Twins.alike(call, bring);
            Twins.alike("all that is asked", bring, t -> t.then(ASKED));
        }
        Consumer<Told> little = t -> t.text("g1,1;c0,0,0;f0,0,0,0,0;").then("lay()");
        for (String call : ASKED) Twins.alike(call, little);
    }

    /** What is LAID stays, whatever THE TEXT has become; the text is wiped, for later calls to be alike. */
    private static void otherText() {
        String[] texts = {"g1,1;c2,0,0;f3,0,0,9,0;", "g6,6;c0,35,1;f3,0,9,9,60;f0,2,3,4,5;", "g1,1;c1,0,0;", "f1,0,0,0,0;", "x",
            "g2,2;c2,3,1;c2,0,3;f1,3,0,1,1;c3,0,0;"};
        Consumer<Told> later = t -> {
            evening(t);
            t.then("wipe()");
        };
        Consumer<Told> early = t -> t.then("see(0, 0, 6)", "see(1, 2, 12)", "see(2, 4, 11)");
        Consumer<Told> rest = t -> {
            t.text("g1,6;c0,0,5;c1,2,4;f3,0,0,0,0;" + "f0,0,0,11,0;".repeat(4) + "f2,0,3,14,5;").due(6, "lay()").then("wipe()");
            t.then("see(1, 5, 23)", "see(1, 5, 23)");
        };
        for (Consumer<Told> bring : List.of(later, early, rest)) {
            for (String text : texts) {
                Twins.alike("fault() of " + text, bring, t -> t.text(text).then("fault()", "wipe()"));
            }
            for (String text : new String[] {texts[2], texts[3], texts[4], texts[5]}) {
                Twins.alike("lay() of " + text, bring, t -> t.text(text).due(NO, "lay()").then("wipe()"));
            }
        }
    }

    private static void manyRefused() {
        String[] calls = {"write(31)", "write(127)", "lay()", "far(0, 36)", "cab(3, 0)", "fare(7, 0)", "take(3, 0)",
            "take(0, 7)",
            "take(0, 0)", "send(3, 0)", "send(0, 36)", "pass(0)", "pass(61)", "ride(0, 0, 4)", "soonest(7)", "order(8)",
                "waiting(0, 2)", "round(2)",
            "mends(7)", "mends(0)", "rivals(0, 0, 1, 0)", "rivals(0, 1, 5, 0)", "see(3, 0, 0)", "see(0, 7, 0)",
                "see(0, 0, 401)",
            "wept(0, 2)", "kinds(3)", "tears(8, 0, 0)", "tears(0, 11, 0)", "year(10000, 1, 0)", "year(0, 41, 0)", "count(11)"};
        Twins.alike("many refused calls", RefusedTest::evening, t -> {
            for (String call : calls) Check.due(call + " is refused", t.answer(call) < 0 ? 1 : 0, 1);
        });
    }
}
