import java.math.BigInteger;
import java.util.ArrayDeque;
import java.util.ArrayList;
import java.util.List;
import java.util.function.IntPredicate;
import java.util.regex.Matcher;
import java.util.regex.Pattern;

/**
 * The document told a second time, as slowly and plainly as can be, to hold CabTears against:
 * every stand is a fresh copy, every order and every branch of chance is gone through whole.
 */
final class Model {
    private static final int BAD = -1, NO = -2, FULL = -3, NONE = -4;
    private static final Pattern ITEM = Pattern.compile("([ -~])(\\d\\d?(?:,\\d\\d?)*);");

    record Cab(int kind, int place, int wept) { }

    record Fare(int kind, int a, int b, int t, int h) { }

    record Sight(int c, int f, int s) { }

    record Town(int rows, int columns, List<Cab> cabs, List<Fare> fares, int fault) {
        int far(int a, int b) {
            int down = a / columns - b / columns;
            int along = a % columns - b % columns;
            return Math.abs(down) + Math.abs(along);
        }
    }

    record Outcome(int free, int late, boolean weeps, boolean by) { }

    /** One stand of things; null is nowhere, and not TAKEN. */
    static final class Things {
        int now = 0;
        List<Integer> place = new ArrayList<>();
        List<Integer> free = new ArrayList<>();
        List<Integer> wept = new ArrayList<>();
        List<Integer> late = new ArrayList<>();
        List<Boolean> cried = new ArrayList<>();

        Things twin() {
            Things t = new Things();
            t.now = now;
            t.place.addAll(place);
            t.free.addAll(free);
            t.wept.addAll(wept);
            t.late.addAll(late);
            t.cried.addAll(cried);
            return t;
        }

        List<Integer> rest() {
            List<Integer> rest = new ArrayList<>();
            for (int f = 0; f < late.size(); f++) {
                if (late.get(f) == null) rest.add(f);
            }
            return rest;
        }
    }

    private final StringBuilder text = new StringBuilder();
    private Town town;
    private Things things;
    private final ArrayDeque<Things> undoable = new ArrayDeque<>();
    private final ArrayDeque<Things> kept = new ArrayDeque<>();
    private final List<Sight> seen = new ArrayList<>();

    Model() {
        begin(parse("g4,4;c0,0,10;c1,15,15;c2,5,2;f0,1,14,0,9;f1,4,7,2,20;"
            + "f2,12,3,3,12;f3,9,2,5,15;f0,6,11,6,6;f1,13,0,9,30;"));
    }

    private static Town parse(String letters) {
        int rows = 4;
        int columns = 4;
        List<Cab> cabs = new ArrayList<>();
        List<Fare> fares = new ArrayList<>();
        int at = 0;
        while (at < letters.length()) {
            Matcher m = ITEM.matcher(letters).region(at, letters.length());
            if (!m.lookingAt()) return new Town(rows, columns, cabs, fares, at);
            String[] figures = m.group(2).split(",");
            int[] n = new int[figures.length];
            for (int i = 0; i < n.length; i++) n[i] = Integer.parseInt(figures[i]);
            int places = rows * columns;
            String kind = m.group(1) + n.length;
            boolean right;
            if (kind.equals("g2")) {
                right = cabs.isEmpty() && fares.isEmpty() && n[0] >= 1 && n[0] <= 6 && n[1] >= 1 && n[1] <= 6;
                if (right) {
                    rows = n[0];
                    columns = n[1];
                }
            } else if (kind.equals("c3")) {
                right = cabs.size() < 3 && n[0] <= 2 && n[1] < places && n[2] < places;
                if (right) cabs.add(new Cab(n[0], n[1], n[2]));
            } else if (kind.equals("f5")) {
                right = fares.size() < 7 && n[0] <= 3 && n[1] < places && n[2] < places && n[4] <= 60;
                if (right) fares.add(new Fare(n[0], n[1], n[2], n[3], n[4]));
            } else {
                right = false;
            }
            if (!right) return new Town(rows, columns, cabs, fares, at);
            at = m.end();
        }
        return new Town(rows, columns, cabs, fares, NONE);
    }

    private void begin(Town t) {
        town = t;
        things = new Things();
        for (Cab c : t.cabs) {
            things.place.add(c.place);
            things.free.add(0);
            things.wept.add(c.wept == c.place ? null : (Integer) c.wept);
        }
        for (int f = 0; f < t.fares.size(); f++) {
            things.late.add(null);
            things.cried.add(false);
        }
        undoable.clear();
        kept.clear();
        seen.clear();
    }

    private static boolean out(int x, int low, int high) {
        return x < low || x > high;
    }

    private boolean noCab(int c) {
        return out(c, 0, town.cabs.size() - 1);
    }

    private boolean noFare(int f) {
        return out(f, 0, town.fares.size() - 1);
    }

    private boolean noPlace(int p) {
        return out(p, 0, town.rows * town.columns - 1);
    }

    private Outcome outcome(Things s, int c, int f, int kind, Integer wept) {
        Fare fare = town.fares.get(f);
        int step = Math.max(s.now, Math.max(s.free.get(c), fare.t));
        step += town.far(s.place.get(c), fare.a);
        boolean by = false;
        if (wept == null) {
            step += town.far(fare.a, fare.b);
        } else if (kind == 2 && town.far(fare.a, wept) > 3) {
            step += town.far(fare.a, fare.b);
        } else {
            by = true;
            step += town.far(fare.a, wept);
            step += kind == 1 ? 3 : 1;
            step += town.far(wept, fare.b);
        }
        int late = step - fare.t;
        boolean weeps = switch (fare.kind) {
            case 0 -> late > fare.h;
            case 1 -> true;
            default -> false;
        };
        return new Outcome(step, late, weeps, by);
    }

    private Outcome outcome(Things s, int c, int f) {
        return outcome(s, c, f, town.cabs.get(c).kind, s.wept.get(c));
    }

    private Things after(Things s, int c, int f, boolean weeps) {
        Outcome o = outcome(s, c, f);
        Fare fare = town.fares.get(f);
        Things t = s.twin();
        t.place.set(c, fare.b);
        t.free.set(c, o.free);
        t.late.set(f, o.late);
        t.cried.set(f, weeps);
        if (weeps) t.wept.set(c, fare.b);
        if (fare.kind == 3 && o.by) t.wept.set(c, null);
        return t;
    }

    private Things after(Things s, int c, int f) {
        return after(s, c, f, outcome(s, c, f).weeps);
    }

    private Things sent(Things s, int c, int p) {
        Things t = s.twin();
        t.free.set(c, Math.max(s.now, s.free.get(c)) + town.far(s.place.get(c), p));
        t.place.set(c, p);
        return t;
    }

    private int best(Things s, int f) {
        int best = 0;
        for (int c = 1; c < town.cabs.size(); c++) {
            if (outcome(s, c, f).late < outcome(s, best, f).late) best = c;
        }
        return best;
    }

    private int weepersOf(List<Integer> order) {
        Things s = things;
        int weepers = 0;
        for (int f : order) {
            s = after(s, best(s, f), f);
            if (s.cried.get(f)) weepers++;
        }
        return weepers;
    }

    private static void allOrders(List<Integer> head, List<Integer> left, List<List<Integer>> into) {
        if (left.isEmpty()) into.add(new ArrayList<>(head));
        for (int f : left) {
            List<Integer> others = new ArrayList<>(left);
            others.remove((Integer) f);
            head.add(f);
            allOrders(head, others, into);
            head.remove(head.size() - 1);
        }
    }

    int write(int letter) {
        if (letter < 32 || letter > 126) return BAD;
        if (text.length() == 200) return FULL;
        text.append((char) letter);
        return text.length();
    }

    int wipe() {
        int was = text.length();
        text.setLength(0);
        return was;
    }

    int fault() {
        return parse(text.toString()).fault;
    }

    int lay() {
        Town t = parse(text.toString());
        if (t.fault != NONE || t.cabs.isEmpty() || t.fares.isEmpty()) return NO;
        begin(t);
        return t.rows * t.columns;
    }

    int far(int a, int b) {
        return noPlace(a) || noPlace(b) ? BAD : town.far(a, b);
    }

    int cab(int c, int what) {
        if (noCab(c) || out(what, 0, 3)) return BAD;
        Integer wept = things.wept.get(c);
        int[] all = {town.cabs.get(c).kind, things.place.get(c), things.free.get(c), wept == null ? NONE : wept};
        return all[what];
    }

    int fare(int f, int what) {
        if (noFare(f) || out(what, 0, 7)) return BAD;
        Fare x = town.fares.get(f);
        Integer late = things.late.get(f);
        int[] all = {x.kind, x.a, x.b, x.t, x.h, late == null ? 0 : 1, late == null ? NONE : late,
            things.cried.get(f) ? 1 : 0};
        return all[what];
    }

    private void change(Things to) {
        undoable.addLast(things);
        if (undoable.size() > 8) undoable.removeFirst();
        things = to;
    }

    int take(int c, int f) {
        if (noCab(c) || noFare(f)) return BAD;
        if (things.late.get(f) != null) return NO;
        change(after(things, c, f));
        return things.late.get(f);
    }

    int send(int c, int p) {
        if (noCab(c) || noPlace(p)) return BAD;
        change(sent(things, c, p));
        return things.free.get(c);
    }

    int pass(int n) {
        if (out(n, 1, 60)) return BAD;
        Things t = things.twin();
        t.now += n;
        change(t);
        return t.now;
    }

    int undo() {
        if (undoable.isEmpty()) return NO;
        things = undoable.removeLast();
        return undoable.size();
    }

    int ride(int c, int f, int what) {
        if (noCab(c) || noFare(f) || out(what, 0, 3)) return BAD;
        Outcome o = outcome(things, c, f);
        return new int[] {o.free, o.late, o.weeps ? 1 : 0, o.by ? 1 : 0}[what];
    }

    int soonest(int f) {
        return noFare(f) ? BAD : best(things, f);
    }

    int order(int k) {
        if (out(k, 0, 7)) return BAD;
        List<List<Integer>> orders = new ArrayList<>();
        allOrders(new ArrayList<>(), things.rest(), orders);
        List<Integer> best = orders.get(0);
        int fewest = weepersOf(best);
        for (List<Integer> o : orders) {
            int weepers = weepersOf(o);
            if (weepers < fewest) {
                best = o;
                fewest = weepers;
            }
        }
        if (k == 0) return fewest;
        return k <= best.size() ? best.get(k - 1) : NONE;
    }

    int waiting(int c, int what) {
        if (noCab(c) || out(what, 0, 1)) return BAD;
        int place = -1;
        int least = Integer.MAX_VALUE;
        for (int p = 0; p < town.rows * town.columns; p++) {
            Things s = sent(things, c, p);
            int sum = 0;
            for (int f : s.rest()) sum += outcome(s, c, f).late;
            if (sum < least) {
                least = sum;
                place = p;
            }
        }
        return what == 0 ? place : least;
    }

    int round(int what) {
        if (out(what, 0, 1)) return BAD;
        List<String> mornings = new ArrayList<>();
        Things s = things;
        mornings.add(s.place + " " + s.wept);
        for (int day = 1; day <= 40; day++) {
            Things t = s.twin();
            t.now = 0;
            for (int c = 0; c < t.free.size(); c++) t.free.set(c, 0);
            for (int f = 0; f < t.late.size(); f++) t.late.set(f, null);
            for (int f = 0; f < town.fares.size(); f++) t = after(t, best(t, f), f);
            s = t;
            String evening = s.place + " " + s.wept;
            if (mornings.contains(evening)) return what == 0 ? day : mornings.indexOf(evening);
            mornings.add(evening);
        }
        return NONE;
    }

    int mends(int f) {
        if (noFare(f)) return BAD;
        if (things.late.get(f) != null || town.fares.get(f).kind != 3) return NO;
        List<Integer> others = things.rest();
        others.remove((Integer) f);
        List<Integer> last = new ArrayList<>(others);
        last.add(f);
        List<Integer> first = new ArrayList<>(others);
        first.add(0, f);
        return weepersOf(last) - weepersOf(first) + 10;
    }

    /** {how many fewer weep in the mover's CAB than in the other one, whom he takes}. */
    private int[] duel(Things s, int mover, int other, int left) {
        if (left == 0 || s.rest().isEmpty()) return new int[] {0, NONE};
        int[] best = null;
        for (int f : s.rest()) {
            Things t = after(s, mover, f);
            int fewer = -duel(t, other, mover, left - 1)[0] - (t.cried.get(f) ? 1 : 0);
            if (best == null || fewer > best[0]) best = new int[] {fewer, f};
        }
        return best;
    }

    int rivals(int c, int e, int n, int what) {
        if (noCab(c) || noCab(e) || c == e || out(n, 1, 4) || out(what, 0, 1)) return BAD;
        int[] best = duel(things, c, e, n);
        return what == 0 ? 10 - best[0] : best[1];
    }

    int see(int c, int f, int s) {
        if (noCab(c) || noFare(f) || out(s, 0, 400)) return BAD;
        if (seen.size() == 6) return FULL;
        seen.add(new Sight(c, f, s));
        return seen.size();
    }

    int forget() {
        int were = seen.size();
        seen.clear();
        return were;
    }

    private boolean allSeen(int c, int kind, Integer wept) {
        return seen.stream().allMatch(x -> x.c != c || outcome(things, c, x.f, kind, wept).free == x.s);
    }

    int wept(int c, int what) {
        if (noCab(c) || out(what, 0, 1)) return BAD;
        List<Integer> fitting = new ArrayList<>();
        IntPredicate fits = p -> allSeen(c, town.cabs.get(c).kind, p == 99 ? null : (Integer) p);
        for (int p = 0; p < town.rows * town.columns; p++) {
            if (fits.test(p)) fitting.add(p);
        }
        if (fits.test(99)) fitting.add(99);
        if (what == 0) return fitting.size();
        return fitting.isEmpty() ? NONE : fitting.get(0);
    }

    int kinds(int c) {
        if (noCab(c)) return BAD;
        int bits = 0;
        for (int k = 0; k < 3; k++) {
            if (allSeen(c, k, things.wept.get(c))) bits += 1 << k;
        }
        return bits;
    }

    private BigInteger chance(Things s, List<Integer> left, int due, int x) {
        if (left.isEmpty()) return due <= 0 ? BigInteger.ONE : BigInteger.ZERO;
        int f = left.get(0);
        List<Integer> others = left.subList(1, left.size());
        int c = best(s, f);
        int nextDue = outcome(s, c, f).late > town.fares.get(f).h ? due - 1 : due;
        BigInteger yes = chance(after(s, c, f, true), others, nextDue, x);
        BigInteger no = chance(after(s, c, f, false), others, nextDue, x);
        return yes.multiply(BigInteger.valueOf(x)).add(no.multiply(BigInteger.valueOf(10 - x)));
    }

    int tears(int n, int x, int part) {
        if (out(n, 0, 7) || out(x, 0, 10) || out(part, 0, 1)) return BAD;
        BigInteger above = chance(things, things.rest(), n, x);
        BigInteger below = BigInteger.TEN.pow(things.rest().size());
        BigInteger shared = above.gcd(below);
        return (part == 0 ? above : below).divide(shared).intValueExact();
    }

    int year(int z, int n, int what) {
        if (out(z, 0, 9999) || out(n, 1, 40) || out(what, 0, 1)) return BAD;
        Things s = things.twin();
        int weepers = 0;
        int late = 0;
        for (int k = 0; k < n; k++) {
            BigInteger x = BigInteger.valueOf(7919L * z + 6151L * k + 1);
            int draw = x.pow(2).mod(BigInteger.valueOf(65521)).intValueExact();
            int f = (draw / 4) % town.fares.size();
            int c = draw % town.cabs.size();
            Outcome o = outcome(s, c, f);
            s = after(s, c, f);
            weepers += o.weeps ? 1 : 0;
            late += o.late;
            s.now += (draw / 64) % 8;
        }
        return what == 0 ? weepers : late;
    }

    int keep() {
        if (kept.size() == 2) return FULL;
        kept.addLast(things);
        return kept.size();
    }

    int back() {
        if (kept.isEmpty()) return NO;
        things = kept.removeLast();
        undoable.clear();
        return kept.size();
    }

    int count(int what) {
        if (out(what, 0, 10)) return BAD;
        int taken = town.fares.size() - things.rest().size();
        int cried = (int) things.cried.stream().filter(b -> b).count();
        return new int[] {town.rows * town.columns, town.columns, town.cabs.size(), town.fares.size(), things.now,
            taken, cried, seen.size(), undoable.size(), kept.size(), text.length()}[what];
    }
}
