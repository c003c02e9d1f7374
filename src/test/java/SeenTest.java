/** Promises 20 to 23: what was SEEN, and what follows from it. */
public final class SeenTest {
    private static final int MAX = Integer.MAX_VALUE, MIN = Integer.MIN_VALUE;
    /** By a RIDE of the FARE the CAB 0 is FREE at 7, 5, 5, 5, 5, 7, one having WEPT in 0, 1, .., at 4, if nowhere. */
    private static final String TOWN = "g1,6;c0,0,3;c2,0,5;f2,1,4,0,0;f2,5,5,0,0;";

    public static void main(String[] args) {
        Check.test("promise 20 see", SeenTest::see);
        Check.test("promise 21 forget", SeenTest::forget);
        Check.test("promise 22 wept", SeenTest::wept);
        Check.test("promise 22 wept, as things stand", SeenTest::weptNow);
        Check.test("promise 23 kinds", SeenTest::kinds);
        Check.end();
    }

    private static void see() {
        CabTears x = Check.laid(TOWN);
        Check.due("see(0, 0, 0)", x.see(0, 0, 0), 1);
        Check.due("see(1, 1, 400)", x.see(1, 1, 400), 2);
        for (int bad : new int[] {-1, 2, MAX, MIN}) {
            Check.due("see(" + bad + ", 0, 0)", x.see(bad, 0, 0), -1);
            Check.due("see(0, " + bad + ", 0)", x.see(0, bad, 0), -1);
        }
        for (int bad : new int[] {-1, 401, MAX, MIN}) Check.due("see(0, 0, " + bad + ")", x.see(0, 0, bad), -1);
        Check.due("count(7)", x.count(7), 2);
        x.take(0, 0);
        for (int i = 3; i <= 6; i++) Check.due("see(0, 0, 5)", x.see(0, 0, 5), i);
        Check.due("see(0, 0, 5), the 7th", x.see(0, 0, 5), -3);
        Check.due("see(2, 0, 5), the 7th", x.see(2, 0, 5), -1);
        Check.due("see(0, 0, 401), the 7th", x.see(0, 0, 401), -1);
        Check.due("count(7)", x.count(7), 6);
        Check.due("count(8)", x.count(8), 1);
    }

    private static void forget() {
        CabTears x = Check.laid(TOWN);
        Check.due("forget()", x.forget(), 0);
        for (int i = 1; i <= 6; i++) x.see(0, 0, 7);
        Check.due("wept(0, 0)", x.wept(0, 0), 2);
        Check.due("forget()", x.forget(), 6);
        Check.due("count(7)", x.count(7), 0);
        Check.due("wept(0, 0)", x.wept(0, 0), 7);
        Check.due("forget()", x.forget(), 0);
        Check.due("see(0, 0, 5)", x.see(0, 0, 5), 1);
        Check.due("wept(0, 0)", x.wept(0, 0), 4);
    }

    private static void weptIs(CabTears x, int c, int many, int lowest) {
        Check.due("wept(" + c + ", 0)", x.wept(c, 0), many);
        Check.due("wept(" + c + ", 1)", x.wept(c, 1), lowest);
    }

    private static CabTears seen(int c, int f, int s) {
        CabTears x = Check.laid(TOWN);
        Check.due("see", x.see(c, f, s), 1);
        return x;
    }

    private static void wept() {
        weptIs(Check.laid(TOWN), 0, 7, 0);
        weptIs(seen(0, 0, 5), 0, 4, 1);
        weptIs(seen(0, 0, 7), 0, 2, 0);
        weptIs(seen(0, 0, 4), 0, 1, 99);
        weptIs(seen(0, 0, 6), 0, 0, -4);
        // a BRISK one leaves 5 out: as if nowhere
        weptIs(seen(1, 0, 4), 1, 2, 5);
        weptIs(seen(1, 0, 4), 0, 7, 0);
        CabTears x = seen(0, 0, 5);
        // to 5, then by w: 5 - w there, a step, 5 - w back; SEEN so only if it was 4
        x.see(0, 1, 5 + 1 + 1 + 1);
        weptIs(x, 0, 1, 4);
        x.see(1, 1, 0);
        weptIs(x, 0, 1, 4);
        weptIs(x, 1, 0, -4);
        x.see(0, 1, 9);
        weptIs(x, 0, 0, -4);
        for (int bad : new int[] {-1, 2, MAX, MIN}) {
            Check.due("wept(" + bad + ", 0)", x.wept(bad, 0), -1);
            Check.due("wept(0, " + bad + ")", x.wept(0, bad), -1);
        }
        weptIs(Check.laid("g6,6;c0,0,3;f0,0,0,0,0;"), 0, 37, 0);
    }

    private static void weptNow() {
        CabTears x = seen(0, 0, 6);
        weptIs(x, 0, 0, -4);
        x.pass(1);
        weptIs(x, 0, 4, 1);
        x.pass(1);
        weptIs(x, 0, 1, 99);
        x.undo();
        weptIs(x, 0, 4, 1);
        // from 1 it is a step less; TAKEN or not
        x.undo();
        x.send(0, 1);
        x.take(1, 0);
        x.see(0, 0, 8);
        Check.due("forget()", x.forget(), 2);
        x.see(0, 0, 7);
        weptIs(x, 0, 2, 0);
    }

    private static void kinds() {
        Check.due("kinds(0) of nothing", Check.laid(TOWN).kinds(0), 7);
        Check.due("kinds(0), 5", seen(0, 0, 5).kinds(0), 1 + 4);
        Check.due("kinds(0), 7", seen(0, 0, 7).kinds(0), 2);
        Check.due("kinds(0), 4", seen(0, 0, 4).kinds(0), 0);
        Check.due("kinds(1), 4", seen(1, 0, 4).kinds(1), 4);
        Check.due("kinds(1), 7", seen(1, 0, 7).kinds(1), 1);
        Check.due("kinds(1), 9", seen(1, 0, 9).kinds(1), 2);
        Check.due("kinds(0), SEEN of the other one", seen(1, 0, 9).kinds(0), 7);
        CabTears x = seen(0, 0, 5);
        x.see(0, 1, 5 + 2 + 1 + 2);
        Check.due("kinds(0)", x.kinds(0), 5);
        x.see(0, 1, 5 + 2 + 3 + 2);
        Check.due("kinds(0)", x.kinds(0), 0);
        for (int bad : new int[] {-1, 2, MAX, MIN}) Check.due("kinds(" + bad + ")", x.kinds(bad), -1);
        // where nobody wept all KINDS are alike
        CabTears y = Check.laid("g1,6;c1,0,0;f2,1,4,0,0;");
        y.see(0, 0, 4);
        Check.due("kinds(0), nowhere", y.kinds(0), 7);
        y.pass(1);
        Check.due("kinds(0), a step later", y.kinds(0), 0);
    }
}
