import java.util.Random;

/** Long runs of calls by chance (always the same ones), CabTears held against Model at every call. */
public final class ModelTest {
    private static final int RUNS = 3000, MOST_CALLS = 512;
    private static final int[] WRONG = {-1, -2, 7, 8, 36, 61, 100, 401, 10000, Integer.MAX_VALUE, Integer.MIN_VALUE};

    private final Random random;
    private final CabTears x = new CabTears();
    private final Model m = new Model();
    private final StringBuilder trace = new StringBuilder();
    private int calls = 0;
    private boolean wrong = false;

    private ModelTest(long seed) {
        random = new Random(seed);
    }

    public static void main(String[] args) {
        Check.test("runs by chance against the model", () -> {
            for (int seed = 0; seed < RUNS; seed++) {
                ModelTest t = new ModelTest(seed);
                t.go();
                Check.due("run " + seed + t.trace, t.wrong ? 1 : 0, 0);
                if (t.wrong) break;
            }
        });
        Check.end();
    }

    private void go() {
        if (random.nextInt(5) > 0) layOne();
        while (calls < MOST_CALLS && !wrong) {
            step();
        }
    }

    private void same(String call, int got, int want) {
        calls++;
        if (random.nextInt(40) != 0 && call.startsWith("write") && got == want) return;
        trace.append("\n    ").append(call).append(" answered ").append(got).append(", due is ").append(want);
        if (got != want) wrong = true;
    }

    private void letter(int l) {
        same("write(" + l + ")", x.write(l), m.write(l));
    }

    private int upTo(int most) {
        return random.nextInt(most + 1);
    }

    private String number(int n) {
        return n < 10 && random.nextInt(12) == 0 ? "0" + n : "" + n;
    }

    private String item(String letter, int... numbers) {
        StringBuilder s = new StringBuilder(letter);
        for (int i = 0; i < numbers.length; i++) {
            s.append(i == 0 ? "" : ",").append(number(numbers[i]));
        }
        return s.append(';').toString();
    }

    private String someText() {
        StringBuilder s = new StringBuilder();
        int rows = 4;
        int columns = 4;
        for (int i = upTo(9) / 4; i > 0; i--) {
            rows = 1 + upTo(5);
            columns = 1 + upTo(5);
            s.append(item("g", rows, columns));
        }
        int last = rows * columns - 1;
        int bears = random.nextBoolean() ? 60 : 20;
        int since = random.nextBoolean() ? 99 : 12;
        int cabs = 1 + upTo(2);
        int fares = 1 + upTo(6);
        boolean mixed = random.nextInt(4) == 0;
        while (cabs > 0 || fares > 0) {
            if (cabs > 0 && (fares == 0 || !mixed || random.nextBoolean())) {
                cabs--;
                s.append(item("c", upTo(2), upTo(last), upTo(last)));
            } else {
                fares--;
                s.append(item("f", upTo(3), upTo(last), upTo(last), upTo(since), upTo(bears)));
            }
        }
        if (random.nextInt(4) == 0) spoil(s);
        return s.length() > 200 ? s.substring(0, 200) : s.toString();
    }

    private void spoil(StringBuilder s) {
        String letters = "gcf,;0123456789 -x";
        int at = upTo(s.length() - 1);
        char l = letters.charAt(upTo(letters.length() - 1));
        switch (upTo(3)) {
            case 0 -> s.setCharAt(at, l);
            case 1 -> s.insert(at, l);
            case 2 -> s.deleteCharAt(at);
            default -> s.setLength(at);
        }
    }

    private void layOne() {
        same("wipe()", x.wipe(), m.wipe());
        String text = someText();
        for (int i = 0; i < text.length(); i++) letter(text.charAt(i));
        trace.append("\n    text ").append(text);
        same("fault()", x.fault(), m.fault());
        same("lay()", x.lay(), m.lay());
    }

    /** Mostly a number that is told, at times one that is not. */
    private int some(int most) {
        if (random.nextInt(30) == 0) return WRONG[upTo(WRONG.length - 1)];
        if (random.nextInt(30) == 0) return most + 1;
        return most < 0 ? 0 : upTo(most);
    }

    private int aCab() {
        return some(m.count(2) - 1);
    }

    private int aFare() {
        return some(m.count(3) - 1);
    }

    private int aPlace() {
        return some(m.count(0) - 1);
    }

    private void step() {
        int a = aCab();
        int b = aCab();
        int f = aFare();
        int p = aPlace();
        int q = aPlace();
        int n;
        int what;
        switch (upTo(39)) {
            case 0 -> { if (random.nextInt(30) == 0 && calls < 250) layOne(); }
            case 1 -> letter(some(126));
            case 2 -> same("fault()", x.fault(), m.fault());
            case 3 -> same("far(" + p + ", " + q + ")", x.far(p, q), m.far(p, q));
            case 4, 5 -> { what = some(3); same("cab(" + a + ", " + what + ")", x.cab(a, what), m.cab(a, what)); }
            case 6, 7 -> { what = some(7); same("fare(" + f + ", " + what + ")", x.fare(f, what), m.fare(f, what)); }
            case 8, 9, 10 -> same("take(" + a + ", " + f + ")", x.take(a, f), m.take(a, f));
            case 11 -> same("send(" + a + ", " + p + ")", x.send(a, p), m.send(a, p));
            case 12 -> { n = some(60); same("pass(" + n + ")", x.pass(n), m.pass(n)); }
            case 13, 14, 15 -> same("undo()", x.undo(), m.undo());
            case 16, 17 -> {
                what = some(3);
                same("ride(" + a + ", " + f + ", " + what + ")", x.ride(a, f, what), m.ride(a, f, what));
            }
            case 18 -> same("soonest(" + f + ")", x.soonest(f), m.soonest(f));
            case 19 -> { if (m.count(3) - m.count(5) < 6 || random.nextInt(8) == 0) order(); }
            case 20 -> { what = some(1); same("waiting(" + a + ", " + what + ")", x.waiting(a, what), m.waiting(a, what)); }
            case 21 -> { what = some(1); same("round(" + what + ")", x.round(what), m.round(what)); }
            case 22, 23 -> same("mends(" + f + ")", x.mends(f), m.mends(f));
            case 24, 25 -> rivals(a, b);
            case 26, 27, 28 -> see(a, f);
            case 29 -> { if (random.nextInt(2) == 0) same("forget()", x.forget(), m.forget()); }
            case 30, 31 -> { what = some(1); same("wept(" + a + ", " + what + ")", x.wept(a, what), m.wept(a, what)); }
            case 32 -> same("kinds(" + a + ")", x.kinds(a), m.kinds(a));
            case 33, 34 -> tears();
            case 35 -> year();
            case 36 -> { if (random.nextInt(2) == 0) same("keep()", x.keep(), m.keep()); }
            case 37 -> { if (random.nextInt(2) == 0) same("back()", x.back(), m.back()); }
            case 38 -> { what = some(10); same("count(" + what + ")", x.count(what), m.count(what)); }
            default -> { if (random.nextInt(60) == 0) same("lay()", x.lay(), m.lay()); }
        }
    }

    private void order() {
        int k = some(7);
        same("order(" + k + ")", x.order(k), m.order(k));
    }

    private void rivals(int a, int b) {
        int n = some(4);
        int what = some(1);
        String call = "rivals(" + a + ", " + b + ", " + n + ", " + what + ")";
        same(call, x.rivals(a, b, n, what), m.rivals(a, b, n, what));
    }

    /** What is SEEN is often what would be so, were the CAB of another KIND or went it another way. */
    private void see(int a, int f) {
        int s = some(400);
        int would = m.ride(a, f, 0);
        if (would >= 0 && random.nextInt(4) > 0) s = would + upTo(6) - 3;
        if (would >= 0 && random.nextInt(3) > 0) s = would;
        same("see(" + a + ", " + f + ", " + s + ")", x.see(a, f, s), m.see(a, f, s));
    }

    private void tears() {
        int n = some(7);
        int chance = some(10);
        int part = some(1);
        String call = "tears(" + n + ", " + chance + ", " + part + ")";
        same(call, x.tears(n, chance, part), m.tears(n, chance, part));
    }

    private void year() {
        int z = some(9999);
        int n = some(40);
        int what = some(1);
        String call = "year(" + z + ", " + n + ", " + what + ")";
        same(call, x.year(z, n, what), m.year(z, n, what));
    }
}
