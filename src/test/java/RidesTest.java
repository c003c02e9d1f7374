/** Promises 9 to 12: what changes how things stand, and what takes it back. */
public final class RidesTest {
    static final String LINE = "g1,6;c0,0,3;c1,5,2;c2,0,5;f0,1,4,0,9;f1,2,2,5,0;f2,4,0,3,0;f3,3,5,0,20;";
    private static final int MAX = Integer.MAX_VALUE, MIN = Integer.MIN_VALUE;

    public static void main(String[] args) {
        Check.test("promise 9 take", RidesTest::take);
        Check.test("promise 9 take: who WEEPS where", RidesTest::takeWeeping);
        Check.test("promise 9 take: a BREWER", RidesTest::takeBrewer);
        Check.test("promise 9 take BAD, NO", RidesTest::takeWrong);
        Check.test("promise 10 send", RidesTest::send);
        Check.test("promise 11 pass", RidesTest::pass);
        Check.test("promise 12 undo", RidesTest::undo);
        Check.test("promise 12 undo the last 8", RidesTest::undoEight);
        Check.end();
    }

    private static void take() {
        CabTears x = Check.laid(LINE);
        Check.due("take(1, 0)", x.take(1, 0), 10);
        Check.cabIs(x, 1, 4, 10, 4);
        Check.fareIs(x, 0, 1, 10, 1);
        Check.due("take(0, 3)", x.take(0, 3), 6);
        Check.cabIs(x, 0, 5, 6, -4);
        Check.fareIs(x, 3, 1, 6, 0);
        Check.due("take(2, 1)", x.take(2, 1), 9);
        Check.cabIs(x, 2, 2, 14, 2);
        Check.fareIs(x, 1, 1, 9, 1);
        Check.due("take(2, 2)", x.take(2, 2), 18);
        Check.cabIs(x, 2, 0, 21, 2);
        Check.fareIs(x, 2, 1, 18, 0);
        Check.due("count(5)", x.count(5), 4);
        Check.due("count(6)", x.count(6), 2);
        Check.due("count(4)", x.count(4), 0);
    }

    private static void takeWeeping() {
        CabTears x = Check.laid("g1,6;c0,0,0;f0,0,3,0,3;f0,3,5,0,4;f2,5,5,0,0;f1,5,4,90,60;");
        Check.due("PLAIN, just borne", x.take(0, 0), 3);
        Check.cabIs(x, 0, 3, 3, -4);
        Check.fareIs(x, 0, 1, 3, 0);
        Check.due("PLAIN, one step too many", x.take(0, 1), 5);
        Check.cabIs(x, 0, 5, 5, 5);
        Check.fareIs(x, 1, 1, 5, 1);
        Check.due("STOIC", x.take(0, 2), 6);
        Check.cabIs(x, 0, 5, 6, 5);
        Check.fareIs(x, 2, 1, 6, 0);
        Check.due("GIRL", x.take(0, 3), 2);
        Check.cabIs(x, 0, 4, 92, 4);
        Check.fareIs(x, 3, 1, 2, 1);
    }

    private static void takeBrewer() {
        CabTears x = Check.laid("g1,6;c2,0,5;c2,1,5;c0,0,0;f3,1,0,0,0;f3,2,0,0,0;f3,0,0,0,0;");
        Check.due("not driven by", x.take(0, 0), 2);
        Check.cabIs(x, 0, 0, 2, 5);
        Check.due("driven by", x.take(1, 1), 1 + 3 + 1 + 5);
        Check.cabIs(x, 1, 0, 10, -4);
        Check.due("one wept nowhere", x.take(2, 2), 0);
        Check.cabIs(x, 2, 0, 0, -4);
        Check.due("count(6)", x.count(6), 0);
    }

    private static void takeWrong() {
        CabTears x = Check.laid(LINE);
        x.take(0, 0);
        for (int bad : new int[] {-1, 3, MAX, MIN}) Check.due("take(" + bad + ", 0)", x.take(bad, 0), -1);
        for (int bad : new int[] {-1, 4, MAX, MIN}) Check.due("take(0, " + bad + ")", x.take(0, bad), -1);
        Check.due("take(0, 0) again", x.take(0, 0), -2);
        Check.due("take(1, 0) again", x.take(1, 0), -2);
        Check.cabIs(x, 0, 4, 5, 3);
        Check.cabIs(x, 1, 5, 0, 2);
        Check.due("count(5)", x.count(5), 1);
        Check.due("count(8)", x.count(8), 1);
    }

    private static void send() {
        CabTears x = Check.laid(LINE);
        Check.due("send(0, 4)", x.send(0, 4), 4);
        Check.cabIs(x, 0, 4, 4, 3);
        Check.due("send(0, 4) again", x.send(0, 4), 4);
        Check.due("pass(10)", x.pass(10), 10);
        Check.due("send(0, 4) at 10", x.send(0, 4), 10);
        Check.due("send(0, 3)", x.send(0, 3), 11);
        Check.due("send(0, 5), not FREE yet", x.send(0, 5), 13);
        Check.cabIs(x, 0, 5, 13, 3);
        Check.cabIs(x, 1, 5, 0, 2);
        Check.due("count(8)", x.count(8), 6);
        for (int bad : new int[] {-1, 3, MAX, MIN}) Check.due("send(" + bad + ", 0)", x.send(bad, 0), -1);
        for (int bad : new int[] {-1, 6, MAX, MIN}) Check.due("send(0, " + bad + ")", x.send(0, bad), -1);
        Check.due("count(8)", x.count(8), 6);
        Check.cabIs(x, 0, 5, 13, 3);
    }

    private static void pass() {
        CabTears x = Check.laid(LINE);
        Check.due("pass(1)", x.pass(1), 1);
        Check.due("pass(60)", x.pass(60), 61);
        for (int bad : new int[] {0, -1, 61, MAX, MIN}) Check.due("pass(" + bad + ")", x.pass(bad), -1);
        Check.due("count(4)", x.count(4), 61);
        Check.due("count(8)", x.count(8), 2);
        Check.cabIs(x, 0, 0, 0, 3);
        Check.due("take(0, 0)", x.take(0, 0), 66);
        Check.due("pass(9)", x.pass(9), 70);
    }

    private static void undo() {
        CabTears x = Check.laid(LINE);
        Check.due("undo()", x.undo(), -2);
        x.pass(7);
        x.take(1, 0);
        x.send(1, 0);
        x.see(0, 0, 9);
        x.pass(30);
        Check.due("count(4)", x.count(4), 37);
        Check.due("undo() STEPS", x.undo(), 3);
        Check.due("count(4)", x.count(4), 7);
        Check.cabIs(x, 1, 0, 21, 4);
        Check.due("undo() SENT", x.undo(), 2);
        Check.cabIs(x, 1, 4, 17, 4);
        Check.fareIs(x, 0, 1, 17, 1);
        Check.due("undo() TAKEN", x.undo(), 1);
        Check.cabIs(x, 1, 5, 0, 2);
        Check.fareIs(x, 0, 0, -4, 0);
        Check.due("count(6)", x.count(6), 0);
        Check.due("take(0, 0)", x.take(0, 0), 12);
        Check.due("count(8)", x.count(8), 2);
        Check.due("undo()", x.undo(), 1);
        Check.due("undo()", x.undo(), 0);
        Check.due("count(4)", x.count(4), 0);
        Check.due("count(7)", x.count(7), 1);
        Check.due("undo()", x.undo(), -2);
    }

    private static void undoEight() {
        CabTears x = Check.laid(LINE);
        for (int i = 1; i <= 11; i++) {
            x.pass(i);
            Check.due("count(8)", x.count(8), Math.min(i, 8));
        }
        int step = 66;
        for (int i = 11; i >= 4; i--) {
            step -= i;
            Check.due("undo()", x.undo(), i - 4);
            Check.due("count(4)", x.count(4), step);
        }
        Check.due("undo()", x.undo(), -2);
        Check.due("count(4)", x.count(4), 6);
        x.pass(5);
        Check.due("undo()", x.undo(), 0);
        Check.due("count(4)", x.count(4), 6);
    }
}
