import java.io.IOException;
import java.lang.reflect.Method;
import java.lang.reflect.Modifier;
import java.math.BigInteger;
import java.nio.file.Files;
import java.nio.file.Path;
import java.util.ArrayDeque;
import java.util.ArrayList;
import java.util.Arrays;
import java.util.List;
import java.util.Random;
import java.util.Set;
import java.util.TreeSet;
import java.util.regex.Matcher;
import java.util.regex.Pattern;

/**
 * The sentences of the document that name no bound, from its first line on. What would come is played out here:
 * CABS are SENT, FARES TAKEN, STEPS go by, and all of it is UNDONE again.
 */
public final class SentencesTest {
    private static final int BAD = Told.BAD, NO = Told.NO, NONE = Told.NONE;
    private static final int CITIES = 60;

    public static void main(String[] args) throws IOException {
        String document = Files.readString(Path.of("../shared/DOC.md"));
        Check.test("'The public face': all that is written there, and nothing else", () -> face(document));
        Check.test("'Promise 1' to 'Promise 28': each has its call, and a test that bears its number",
            () -> promises(document));
        Check.test("'An object is used ..': one knows nothing of another one", SentencesTest::twoObjects);
        Check.test("'as many steps as rows and columns lie between them': every two PLACES of every city", SentencesTest::far);
        Check.test("'it goes to A, then .. to that PLACE, and stands there .., then to B': every way of a small city",
            SentencesTest::everyWay);
        Check.test("'he is LATE by how many steps that is behind T'", SentencesTest::late);
        Check.test("'UNDONE are the latest of these': all there is of them, one kind among the others", SentencesTest::undone);
        Check.test("SOONEST, 'were he TAKEN now': another one as STEPS go by", SentencesTest::soonestNow);
        Check.test("SOONEST, 'by whose RIDE, .., he would be LATE least', played", SentencesTest::soonestPlayed);
        Check.test("ORDER, 'each TAKEN now, one behind the other, by the CAB that is SOONEST for him by then'",
            SentencesTest::orderByThen);
        Check.test("ORDER, 'of all orders of REST ..', played", SentencesTest::orderPlayed);
        Check.test("WAITING, 'were it SENT there now ..', played", SentencesTest::waitingPlayed);
        Check.test("ROUND, 'then all FARES are TAKEN, 0 first'", SentencesTest::roundInOrder);
        Check.test("ROUND, 'by the CAB that is SOONEST for each by then'", SentencesTest::roundByThen);
        Check.test("ROUND, 'From how CABS stand, where one WEPT in them now'", SentencesTest::roundFromNow);
        Check.test("MENDS, 'all others in their order ahead of him', played", SentencesTest::mendsPlayed);
        Check.test("RIVALS, 'by turns, the first one first'; 'the second one likewise, both looking ahead', played",
            SentencesTest::rivalsPlayed);
        Check.test("SEEN, WEPT, KINDS: as in cities in which it is so", SentencesTest::seenPlayed);
        Check.test("TEARS, '0 first'; 'each WEEPS by x of ten, for himself'", SentencesTest::tearsInOrder);
        Check.test("TEARS, where none WEEPS and where all do, played", SentencesTest::tearsPlayed);
        Check.test("'A YEAR ..: the k-th (0 first) is of FARE .. by CAB ..; then .. STEPS go by', played",
            SentencesTest::yearPlayed);
        Check.test("YEAR, 'DRAW being (x times x) modulo 65521, x 7919 z, 6151 k and 1 together'", SentencesTest::draws);
        Check.end();
    }

    // ---- the document's rows

    private static String signature(String name, String numbers) {
        return name + "(" + numbers.replaceAll("int \\w+", "int").replace(" ", "") + ")";
    }

    private static Set<String> calls(String text, String pattern) {
        Set<String> calls = new TreeSet<>();
        Matcher m = Pattern.compile(pattern).matcher(text);
        while (m.find()) calls.add(signature(m.group(1), m.group(2)));
        return calls;
    }

    private static void face(String document) {
        int start = document.indexOf("public final class CabTears {");
        String block = document.substring(start, document.indexOf("\n}", start));
        Set<String> due = calls(block, "public int (\\w+)\\(([^)]*)\\);");
        Set<String> got = new TreeSet<>();
        for (Method m : CabTears.class.getDeclaredMethods()) {
            if (!Modifier.isPublic(m.getModifiers())) continue;
            String numbers = "int,".repeat(m.getParameterCount());
            got.add(m.getName() + "(" + numbers.substring(0, Math.max(0, numbers.length() - 1)) + ")");
            for (Class<?> type : m.getParameterTypes()) Check.due(m + " takes int", type == int.class ? 1 : 0, 1);
            Check.due(m + " answers int", m.getReturnType() == int.class ? 1 : 0, 1);
        }
        Check.due("27 calls of " + due, due.size(), 27);
        Check.due("the face is " + got, got.equals(due) ? 1 : 0, 1);
        Matcher m = Pattern.compile("([A-Z]+) = (-\\d)").matcher(block);
        int words = 0;
        while (m.find()) {
            Check.due(m.group(1), constant(m.group(1)), Integer.parseInt(m.group(2)));
            words++;
        }
        Check.due("words", words, 4);
    }

    private static int constant(String name) {
        try {
            return CabTears.class.getField(name).getInt(null);
        } catch (ReflectiveOperationException missing) {
            throw new IllegalStateException(missing);
        }
    }

    private static void promises(String document) {
        Set<String> told = calls(document, "\n`int (\\w+)\\(([^)]*)\\)`: ");
        Check.due("27 calls of " + told, told.size(), 27);
        StringBuilder tests = new StringBuilder();
        try {
            for (String file : Path.of("src/test/java").toFile().list()) {
                tests.append(Files.readString(Path.of("src/test/java", file)));
            }
        } catch (IOException missing) {
            throw new IllegalStateException(missing);
        }
        for (int n = 1; n <= 28; n++) {
            Matcher m = Pattern.compile("\n## Promise " + n + ": (.*)\n").matcher(document);
            Check.due("Promise " + n, m.find() ? 1 : 0, 1);
            if (n > 1) Check.due("the call " + m.group(1), Told.calls().contains(m.group(1)) ? 1 : 0, 1);
            boolean tested = tests.indexOf("test(\"promise " + n + " " + (n > 1 ? m.group(1) : "")) >= 0;
            Check.due("a test of promise " + n, tested ? 1 : 0, 1);
        }
    }

    private static void twoObjects() {
        Told one = Told.city("g1,6;c0,0,3;c1,5,2;f1,1,4,0,9;");
        one.then("take(0, 0)", "pass(9)", "see(0, 0, 1)", "keep()");
        Told other = new Told().row("count(#)", 16, 4, 3, 6, 0, 0, 0, 0, 0, 0, 0).cab(0, 0, 0, 10).fare(0, 0, NONE, 0);
        other.due(NO, "undo()", "back()", "lay()").due(0, "forget()", "wipe()").then("send(0, 15)", "pass(60)", "order(0)");
        one.row("count(#)", 6, 6, 2, 1, 9, 1, 1, 1, 2, 1, 30).cab(0, 4, 5, 4).fare(0, 1, 5, 1);
    }

    // ---- cities and RIDES

    /** How many steps it is from a PLACE to each one, walked along rows and columns. */
    private static int[] walked(int rows, int columns, int from) {
        int[] steps = new int[rows * columns];
        Arrays.fill(steps, -1);
        steps[from] = 0;
        ArrayDeque<Integer> open = new ArrayDeque<>(List.of(from));
        while (!open.isEmpty()) {
            int p = open.removeFirst();
            List<Integer> beside = new ArrayList<>();
            if (p % columns > 0) beside.add(p - 1);
            if (p % columns < columns - 1) beside.add(p + 1);
            if (p >= columns) beside.add(p - columns);
            if (p + columns < rows * columns) beside.add(p + columns);
            for (int q : beside) {
                if (steps[q] >= 0) continue;
                steps[q] = steps[p] + 1;
                open.addLast(q);
            }
        }
        return steps;
    }

    private static void far() {
        for (int rows = 1; rows <= 6; rows++) {
            for (int columns = 1; columns <= 6; columns++) {
                for (int a = 0; a < rows * columns; a++) {
                    Told t = Told.city("g" + rows + "," + columns + ";c0,0,0;f0,0,0,0,0;");
                    t.row("far(" + a + ", #)", walked(rows, columns, a)).due(BAD, "far(" + a + ", " + rows * columns + ")");
                }
            }
        }
    }

    private static void everyWay() {
        int[][] shapes = {{2, 3}, {3, 2}, {1, 6}, {6, 1}};
        for (int[] shape : shapes) {
            int places = shape[0] * shape[1];
            for (int i = 0; i < 3 * places * places * places; i++) {
                ways(shape[0], shape[1], i % 3, i / 3 % places, i / 3 / places % places, i / 3 / places / places);
            }
        }
    }

    /** From A to each PLACE, by a CAB of this KIND in P, in which one WEPT in W. */
    private static void ways(int rows, int columns, int kind, int p, int w, int a) {
        StringBuilder s = new StringBuilder("g" + rows + "," + columns + ";c" + kind + "," + p + "," + w + ";");
        for (int b = 0; b < rows * columns; b++) s.append("f2,").append(a).append(',').append(b).append(",0,0;");
        Told t = Told.city(s.toString());
        int[] fromA = walked(rows, columns, a);
        int[] fromW = walked(rows, columns, w);
        boolean by = w != p && (kind != 2 || fromA[w] <= 3);
        for (int b = 0; b < rows * columns; b++) {
            int way = by ? fromA[w] + (kind == 1 ? 3 : 1) + fromW[b] : fromA[b];
            t.ride(0, b, fromA[p] + way, fromA[p] + way, 0, by ? 1 : 0);
        }
    }

    private static void late() {
        Told t = Told.city("g1,6;c0,0,0;f2,3,5,7,0;f2,3,5,0,0;f2,3,5,99,0;");
        t.ride(0, 0, 12, 5).ride(0, 1, 5, 5).ride(0, 2, 104, 5);
        t.then("pass(10)").ride(0, 0, 15, 8).ride(0, 1, 15, 15).ride(0, 2, 104, 5).due(8, "take(0, 0)").fare(0, 1, 8, 0);
        t.then("pass(60)").fare(0, 1, 8, 0).due(70 + 2 + 2, "take(0, 1)").fare(1, 1, 74, 0);
    }

    private static void undone() {
        Told t = Told.city("g1,6;c0,0,3;c2,5,5;f1,1,4,0,9;f3,4,4,0,0;");
        String[] changes = {"take(0, 0)", "pass(7)", "send(1, 2)", "take(1, 1)", "pass(60)", "send(0, 5)"};
        List<List<Integer>> stands = new ArrayList<>();
        for (String change : changes) {
            stands.add(stand(t));
            t.then(change);
        }
        for (int i = changes.length - 1; i >= 0; i--) {
            t.due(i, "undo()", "count(8)");
            Check.due("all stands as ahead of " + changes[i], stand(t).equals(stands.get(i)) ? 1 : 0, 1);
        }
        t.due(NO, "undo()");
    }

    private static List<Integer> stand(Told t) {
        List<Integer> answers = new ArrayList<>();
        for (int what = 4; what <= 6; what++) answers.add(t.answer("count(" + what + ")"));
        for (int c = 0; c < t.answer("count(2)"); c++) {
            for (int what = 1; what <= 3; what++) answers.add(t.answer("cab(" + c + ", " + what + ")"));
        }
        for (int f = 0; f < t.answer("count(3)"); f++) {
            for (int what = 5; what <= 7; what++) answers.add(t.answer("fare(" + f + ", " + what + ")"));
        }
        return answers;
    }

    // ---- what comes

    /** A city by chance, in which some has gone on already; rest of its FARES are not TAKEN. */
    private static Told someCity(Random r, int cabs, int rest) {
        int rows = 1 + r.nextInt(6);
        int columns = 1 + r.nextInt(6);
        int places = rows * columns;
        StringBuilder s = new StringBuilder("g" + rows + "," + columns + ";");
        for (int c = 0; c < cabs; c++) {
            s.append('c').append(r.nextInt(3)).append(',').append(r.nextInt(places)).append(',').append(r.nextInt(places));
            s.append(';');
        }
        int taken = r.nextInt(2);
        for (int f = 0; f < rest + taken; f++) {
            int kind = f == 0 ? 3 : r.nextInt(3) == 0 ? r.nextInt(4) : 0;
            s.append('f').append(kind).append(',').append(r.nextInt(places)).append(',').append(r.nextInt(places));
            s.append(',').append(r.nextInt(15)).append(',').append(r.nextInt(25)).append(';');
        }
        Told t = Told.city(s.toString());
        if (taken > 0) t.then("take(" + r.nextInt(cabs) + ", " + rest + ")");
        if (r.nextBoolean()) t.then("send(" + r.nextInt(cabs) + ", " + r.nextInt(places) + ")");
        if (r.nextBoolean()) t.then("pass(" + (1 + r.nextInt(9)) + ")");
        return t;
    }

    private static List<Integer> upTo(int n) {
        List<Integer> numbers = new ArrayList<>();
        for (int i = 0; i < n; i++) numbers.add(i);
        return numbers;
    }

    private static List<Integer> without(List<Integer> numbers, Integer one) {
        List<Integer> others = new ArrayList<>(numbers);
        others.remove(one);
        return others;
    }

    private static void soonestNow() {
        Told t = Told.city("g1,6;c0,0,0;c0,2,2;f2,0,0,0,0;f2,0,0,10,0;").then("send(0, 2)", "send(0, 0)").cab(0, 0, 4, NONE);
        t.row("soonest(#)", 1, 0).then("pass(1)").row("soonest(#)", 1, 0).then("pass(1)").row("soonest(#)", 0, 0);
        t.then("undo()").row("soonest(#)", 1, 0);
    }

    private static void soonestPlayed() {
        for (int seed = 0; seed < CITIES; seed++) {
            Told t = someCity(new Random(seed), 3, 4);
            for (int f = 0; f < 4; f++) {
                int least = Integer.MAX_VALUE;
                int best = NONE;
                for (int c = 0; c < 3; c++) {
                    int late = t.answer("take(" + c + ", " + f + ")");
                    if (late < least) best = c;
                    least = Math.min(least, late);
                    t.then("undo()");
                }
                t.due(best, "soonest(" + f + ")");
            }
        }
    }

    private static void orderByThen() {
        // CAB 0 brings the STOIC to 5; CAB 1 is SOONEST for the other one then, by how far it has to come
        Told.city("g1,6;c0,0,0;c0,1,1;f2,0,5,0,0;f0,0,0,0,1;").order(0, 0, 1);
        Told.city("g1,6;c0,0,0;c0,1,1;f2,0,5,0,0;f0,0,0,0,0;").order(0, 1, 0);
        Told.city("g1,6;c0,0,0;c0,2,2;f2,0,5,0,0;f0,0,0,0,1;").order(0, 1, 0);
        // behind the GIRL CAB 0 stands for a step where she WEPT: as far off as CAB 1, and SOONEST still
        Told.city("g1,6;c0,0,0;c0,1,1;f1,0,0,0,0;f0,0,0,0,0;f2,0,0,0,0;").order(1, 1, 0, 2);
        Told.city("g1,6;c0,0,0;c0,1,1;f1,0,0,0,0;f0,0,0,0,1;f2,0,0,0,0;").order(1, 0, 1, 2);
    }

    /** {how many WEPT in the end, the FARES as they were TAKEN}: of all orders the first by which fewest WEEP. */
    private static List<Integer> ordered(Told t, List<Integer> rest) {
        if (rest.isEmpty()) return new ArrayList<>(List.of(t.answer("count(6)")));
        List<Integer> best = null;
        for (int f : rest) {
            t.then("take(" + t.answer("soonest(" + f + ")") + ", " + f + ")");
            List<Integer> behind = ordered(t, without(rest, f));
            t.then("undo()");
            if (best != null && behind.get(0) >= best.get(0)) continue;
            best = behind;
            best.add(1, f);
        }
        return best;
    }

    private static void orderPlayed() {
        for (int seed = 0; seed < CITIES; seed++) {
            Told t = someCity(new Random(seed), 1 + seed % 3, 4);
            int before = t.answer("count(6)");
            List<Integer> best = ordered(t, upTo(4));
            t.due(best.get(0) - before, "order(0)");
            for (int k = 1; k <= 4; k++) t.due(best.get(k), "order(" + k + ")");
            t.due(NONE, "order(5)");
        }
    }

    private static void waitingPlayed() {
        for (int seed = 0; seed < CITIES; seed++) {
            Random r = new Random(seed);
            int c = r.nextInt(2);
            Told t = someCity(r, 2, 4);
            int least = Integer.MAX_VALUE;
            int best = NONE;
            for (int p = 0; p < t.answer("count(0)"); p++) {
                t.then("send(" + c + ", " + p + ")");
                int sum = 0;
                for (int f = 0; f < 4; f++) sum += t.answer("ride(" + c + ", " + f + ", 1)");
                t.then("undo()");
                if (sum < least) best = p;
                least = Math.min(least, sum);
            }
            t.row("waiting(" + c + ", #)", best, least);
        }
    }

    private static void roundInOrder() {
        Told.city("g1,6;c0,0,0;f2,0,5,0,0;f2,5,0,0,0;").row("round(#)", 1, 0);
        Told.city("g1,6;c0,0,0;f2,5,0,0,0;f2,0,5,0,0;").row("round(#)", 2, 1);
        // the one who comes first: T does not tell
        Told.city("g1,6;c0,0,0;f2,0,5,99,0;f2,5,0,0,0;").row("round(#)", 1, 0);
        // the BREWER behind the GIRL, and ahead of her
        Told.city("g1,6;c0,0,0;f1,0,0,0,0;f3,0,0,0,0;").row("round(#)", 1, 0);
        Told.city("g1,6;c0,0,0;f3,0,0,0,0;f1,0,0,0,0;").row("round(#)", 2, 1);
    }

    private static void roundByThen() {
        // 1st day: CAB 0 to 5, CAB 1 to 3; 2nd: CAB 1 to 5, CAB 0 to 3; 3rd as the 1st
        Told.city("g1,6;c0,0,0;c0,5,5;f2,0,5,0,0;f2,0,3,0,0;").row("round(#)", 3, 1);
        // both by the one that is there
        Told.city("g1,6;c0,0,0;c0,5,5;f2,0,1,0,0;f2,0,0,0,0;").row("round(#)", 1, 0);
    }

    private static void roundFromNow() {
        Told t = Told.city("g1,6;c0,0,0;c0,5,5;f2,0,5,0,0;f2,0,3,0,0;").then("send(0, 5)", "send(1, 3)").row("round(#)", 2, 0);
        t.then("undo()", "undo()").row("round(#)", 3, 1);
        // one WEPT in 5 now, as every day from then on
        Told u = Told.city("g1,6;c0,5,5;f1,0,5,0,0;").row("round(#)", 2, 1).then("take(0, 0)").row("round(#)", 1, 0);
        u.then("undo()").row("round(#)", 2, 1);
    }

    private static int wept(Told t, List<Integer> order) {
        int before = t.answer("count(6)");
        for (int f : order) t.then("take(" + t.answer("soonest(" + f + ")") + ", " + f + ")");
        int weeping = t.answer("count(6)") - before;
        for (int i = 0; i < order.size(); i++) t.then("undo()");
        return weeping;
    }

    private static void mendsPlayed() {
        int mended = 0;
        for (int seed = 0; seed < 4 * CITIES; seed++) {
            Told t = someCity(new Random(seed), 1 + seed % 3, 6);
            for (int f = 0; f < 6; f++) {
                if (t.answer("fare(" + f + ", 0)") != 3) {
                    t.due(NO, "mends(" + f + ")");
                    continue;
                }
                List<Integer> first = without(upTo(6), f);
                List<Integer> last = without(upTo(6), f);
                first.add(0, f);
                last.add(f);
                int more = wept(t, last) - wept(t, first);
                t.due(more + 10, "mends(" + f + ")");
                mended += more > 0 ? 1 : 0;
            }
        }
        Check.due("some BREWERS mend", mended > 10 ? 1 : 0, 1);
    }

    /** {how many more WEEP in the CAB whose turn it is than in the other one, whom it TAKES}. */
    private static int[] turn(Told t, int mine, int other, int left, List<Integer> rest) {
        int[] best = {0, NONE};
        if (left == 0) return best;
        for (int f : rest) {
            t.then("take(" + mine + ", " + f + ")");
            int more = t.answer("fare(" + f + ", 7)") - turn(t, other, mine, left - 1, without(rest, f))[0];
            t.then("undo()");
            if (best[1] == NONE || more < best[0]) best = new int[] {more, f};
        }
        return best;
    }

    private static void rivalsPlayed() {
        for (int seed = 0; seed < CITIES; seed++) {
            int rest = 1 + seed % 4;
            Told t = someCity(new Random(seed), 2 + seed % 2, rest);
            int c = seed / 8 % 2;
            for (int n = rest == 4 ? 4 - seed / 4 % 2 : 1; n <= 4; n++) {
                int[] best = turn(t, c, 1 - c, n, upTo(rest));
                t.rivals(c, 1 - c, n, 10 + best[0], best[1]);
            }
        }
    }

    // ---- what was seen

    /** When the CAB is FREE by a RIDE of FARE 0, of FARE 1, in a city in which one WEPT in w (99: nowhere). */
    private static int[] free(int kind, int p, int w, String shape, String fares) {
        String girl = "f1," + p + "," + p + ",0,0;";
        Told t = Told.city(shape + "c" + kind + "," + p + "," + (w == 99 ? p : w) + ";" + fares + girl);
        if (w == p) t.due(0, "take(0, 2)").cab(0, p, 0, p);
        return new int[] {t.answer("ride(0, 0, 0)"), t.answer("ride(0, 1, 0)")};
    }

    private static void seenPlayed() {
        for (int seed = 0; seed < CITIES; seed++) {
            Random r = new Random(seed);
            int rows = 1 + r.nextInt(4);
            int columns = 1 + r.nextInt(4);
            int places = rows * columns;
            String shape = "g" + rows + "," + columns + ";";
            int p = r.nextInt(places);
            int kind = r.nextInt(3);
            int w = r.nextInt(places);
            StringBuilder s = new StringBuilder();
            for (int f = 0; f < 2; f++) {
                s.append("f2,").append(r.nextInt(places)).append(',').append(r.nextInt(places)).append(",0,0;");
            }
            int[] truth = free(kind, p, w, shape, s.toString());
            Told t = Told.city(shape + "c" + kind + "," + p + "," + (p + 1) % places + ";" + s);
            t.due(1, "see(0, 0, " + truth[0] + ")").due(2, "see(0, 1, " + truth[1] + ")");
            int fitting = 0;
            int lowest = NONE;
            for (int q = 99; q >= 0; q--) {
                if (q >= places && q < 99) continue;
                if (!Arrays.equals(free(kind, p, q, shape, s.toString()), truth)) continue;
                fitting++;
                lowest = q;
            }
            t.row("wept(0, #)", fitting, lowest);
            int bits = 0;
            for (int k = 0; k < 3; k++) {
                int there = places == 1 ? 99 : (p + 1) % places;
                if (Arrays.equals(free(k, p, there, shape, s.toString()), truth)) bits += 1 << k;
            }
            t.due(bits, "kinds(0)");
        }
    }

    // ---- tears, years

    private static void tearsInOrder() {
        Told.city("g1,1;c0,0,0;f2,0,0,0,0;f2,0,0,0,1;f2,0,0,0,0;").tears(1, 5, 3, 4).tears(2, 5, 0, 1).tears(1, 1, 19, 100);
        Told.city("g1,1;c0,0,0;f2,0,0,0,0;f2,0,0,0,0;f2,0,0,0,1;").tears(1, 5, 1, 2).tears(2, 5, 1, 2).tears(2, 1, 1, 10);
        Told.city("g1,1;c0,0,0;f2,0,0,0,1;f2,0,0,0,0;f2,0,0,0,0;").tears(1, 5, 3, 4).tears(2, 5, 1, 2).tears(1, 1, 19, 100);
    }

    /** By 0 of ten a city of STOICS, by 10 of ten one of GIRLS tells who is LATE. */
    private static void tearsPlayed() {
        for (int seed = 0; seed < CITIES; seed++) {
            for (int kind = 1; kind <= 2; kind++) {
                Random r = new Random(seed);
                StringBuilder s = new StringBuilder("g3,4;");
                for (int c = 0; c < 3; c++) s.append("c" + c + "," + r.nextInt(12) + "," + r.nextInt(12) + ";");
                int[] bears = new int[5];
                for (int f = 0; f < 5; f++) {
                    bears[f] = r.nextInt(20);
                    s.append("f" + kind + "," + r.nextInt(12) + "," + r.nextInt(12) + "," + r.nextInt(9) + ",");
                    s.append(bears[f]).append(';');
                }
                Told t = Told.city(s.toString());
                int late = 0;
                for (int f = 0; f < 5; f++) {
                    late += t.answer("take(" + t.answer("soonest(" + f + ")") + ", " + f + ")") > bears[f] ? 1 : 0;
                }
                t.then("undo()", "undo()", "undo()", "undo()", "undo()");
                for (int n = 0; n <= 7; n++) t.tears(n, kind == 1 ? 10 : 0, n <= late ? 1 : 0, 1);
            }
        }
    }

    /** The DRAW, as the document tells it. */
    private static int draw(int z, int k) {
        BigInteger x = BigInteger.valueOf(7919).multiply(BigInteger.valueOf(z))
            .add(BigInteger.valueOf(6151).multiply(BigInteger.valueOf(k))).add(BigInteger.ONE);
        return x.multiply(x).mod(BigInteger.valueOf(65521)).intValueExact();
    }

    private static boolean apart(int z, int fares, int rides) {
        Set<Integer> drawn = new TreeSet<>();
        for (int k = 0; k < rides; k++) drawn.add(draw(z, k) / 4 % fares);
        return drawn.size() == rides;
    }

    private static void yearPlayed() {
        int played = 0;
        for (int z = 0; z <= 9999; z += 7) {
            if (!apart(z, 6, 5)) continue;
            played++;
            Told t = someCity(new Random(z), 1 + z % 3, 6);
            if (t.answer("count(3)") != 6) continue;
            List<Integer> years = new ArrayList<>();
            for (int n = 1; n <= 5; n++) {
                years.add(t.answer("year(" + z + ", " + n + ", 0)"));
                years.add(t.answer("year(" + z + ", " + n + ", 1)"));
            }
            int late = 0;
            for (int k = 0; k < 5; k++) {
                int draw = draw(z, k);
                late += t.answer("take(" + draw % t.answer("count(2)") + ", " + draw / 4 % 6 + ")");
                Check.due("who WEEP in a YEAR by " + z + " of " + (k + 1), years.get(2 * k), t.answer("count(6)"));
                Check.due("how LATE in a YEAR by " + z + " of " + (k + 1), years.get(2 * k + 1), late);
                if (draw / 64 % 8 > 0) t.then("pass(" + draw / 64 % 8 + ")");
            }
        }
        Check.due("YEARS are played", played > 50 ? 1 : 0, 1);
    }

    /** Of 7 FARES in 7 PLACES, all from 0, the first one drawn is told by how LATE he is; the CAB by how far it comes. */
    private static void draws() {
        StringBuilder s = new StringBuilder("g6,6;c0,0,0;c0,6,6;c0,18,18;");
        for (int f = 0; f < 7; f++) s.append("f2,0,").append(new int[] {0, 18, 30, 31, 32, 33, 34}[f]).append(",0,0;");
        int[] way = {0, 3, 5, 6, 7, 8, 9}, there = {0, 1, 3};
        for (int from = 0; from < 10000; from += 250) {
            Told t = Told.city(s.toString());
            for (int z = from; z < from + 250; z++) {
                t.due(way[draw(z, 0) / 4 % 7] + there[draw(z, 0) % 3], "year(" + z + ", 1, 1)");
            }
        }
    }
}
