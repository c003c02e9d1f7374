/** Promises 24 to 28: chance, draws, evenings KEPT. */
public final class YearsTest {
    private static final int MAX = Integer.MAX_VALUE, MIN = Integer.MIN_VALUE;

    public static void main(String[] args) {
        Check.test("promise 24 tears", YearsTest::tears);
        Check.test("promise 24 tears: whoever he is", YearsTest::tearsOfAll);
        Check.test("promise 24 tears of 7", YearsTest::tearsOfSeven);
        Check.test("promise 24 tears BAD", YearsTest::tearsWrong);
        Check.test("promise 25 year", YearsTest::year);
        Check.test("promise 25 year by other draws", YearsTest::yearByDraws);
        Check.test("promise 25 year BAD", YearsTest::yearWrong);
        Check.test("promise 26 keep", YearsTest::keep);
        Check.test("promise 27 back", YearsTest::back);
        Check.test("promise 28 count", YearsTest::count);
        Check.end();
    }

    private static void tearsIs(CabTears x, int n, int tenths, int above, int below) {
        Check.due("tears(" + n + ", " + tenths + ", 0)", x.tears(n, tenths, 0), above);
        Check.due("tears(" + n + ", " + tenths + ", 1)", x.tears(n, tenths, 1), below);
    }

    private static void tears() {
        CabTears x = Check.laid("g1,6;c0,0,0;f0,0,0,0,0;f0,0,0,0,0;");
        tearsIs(x, 0, 3, 1, 1);
        tearsIs(x, 1, 0, 0, 1);
        tearsIs(x, 1, 3, 3, 10);
        tearsIs(x, 1, 4, 2, 5);
        tearsIs(x, 1, 5, 1, 2);
        tearsIs(x, 1, 10, 1, 1);
        tearsIs(x, 2, 5, 0, 1);
        tearsIs(x, 7, 10, 0, 1);
        Check.due("count(5)", x.count(5), 0);
        x.pass(1);
        tearsIs(x, 2, 0, 1, 1);
        x.take(0, 0);
        tearsIs(x, 1, 5, 1, 1);
        tearsIs(x, 2, 5, 0, 1);
        x.take(0, 1);
        tearsIs(x, 0, 5, 1, 1);
        tearsIs(x, 1, 5, 0, 1);
        // two CABS: the second FARE is TAKEN by the CAB in which nobody WEPT, a step from him
        CabTears two = Check.laid("g1,6;c0,0,0;c0,1,1;f0,0,0,0,0;f0,0,0,0,0;f0,0,0,0,0;");
        // a tie of 1 goes to CAB 0: it is FREE at 1 then
        tearsIs(two, 1, 5, 3, 4);
        tearsIs(two, 2, 5, 1, 2);
    }

    private static void tearsOfAll() {
        // GIRLS need not WEEP, a STOIC may; all are counted who are LATE by more than they BEAR
        tearsIs(Check.laid("g1,1;c0,0,0;f1,0,0,0,0;f2,0,0,0,0;"), 1, 2, 1, 5);
        tearsIs(Check.laid("g1,1;c0,0,0;f2,0,0,0,0;f1,0,0,0,0;"), 1, 3, 3, 10);
        tearsIs(Check.laid("g1,1;c0,0,0;f2,0,0,0,0;f3,0,0,0,0;"), 1, 3, 3, 10);
        tearsIs(Check.laid("g1,1;c0,0,0;f2,0,0,0,0;f3,0,0,0,1;"), 1, 3, 0, 1);
        // a BREWER who WEEPS: B, if he was not driven by, else nowhere; if not, nowhere too
        CabTears x = Check.laid("g1,1;c0,0,0;f3,0,0,0,0;f3,0,0,0,0;f0,0,0,0,0;");
        tearsIs(x, 1, 2, 9, 25);
        tearsIs(x, 2, 2, 1, 5);
        tearsIs(x, 3, 2, 0, 1);
        tearsIs(Check.laid("g1,1;c0,0,0;f3,0,0,0,0;f3,0,0,0,1;f0,0,0,0,1;"), 1, 2, 0, 1);
    }

    private static void tearsOfSeven() {
        // one WEEPS once: all behind him are LATE
        CabTears x = Check.laid("g1,1;c0,0,0;" + "f2,0,0,0,0;".repeat(7));
        tearsIs(x, 6, 1, 1, 10);
        tearsIs(x, 6, 10, 1, 1);
        tearsIs(x, 1, 1, 468559, 1000000);
        tearsIs(x, 7, 9, 0, 1);
        CabTears y = Check.laid("g1,1;c0,0,0;" + "f0,0,0,0,1;".repeat(7));
        // three are LATE by 2 or more, if one of the first three WEEPS
        tearsIs(y, 3, 3, 657, 1000);
    }

    private static void tearsWrong() {
        CabTears x = new CabTears();
        for (int bad : new int[] {-1, 8, MAX, MIN}) Check.due("tears(" + bad + ", 1, 0)", x.tears(bad, 1, 0), -1);
        for (int bad : new int[] {-1, 11, MAX, MIN}) Check.due("tears(1, " + bad + ", 0)", x.tears(1, bad, 0), -1);
        for (int bad : new int[] {-1, 2, MAX, MIN}) Check.due("tears(1, 1, " + bad + ")", x.tears(1, 1, bad), -1);
    }

    private static void yearIs(CabTears x, int z, int n, int weeping, int late) {
        Check.due("year(" + z + ", " + n + ", 0)", x.year(z, n, 0), weeping);
        Check.due("year(" + z + ", " + n + ", 1)", x.year(z, n, 1), late);
    }

    /** By 0 the DRAWS are 1, 41487, 10299, 37479, 57506: by 4 1, 10371, 2574, 9369; STEPS 0, 0, 0, 1, 2. */
    private static void year() {
        CabTears there = Check.laid("g1,6;c0,0,0;f2,0,5,0,0;");
        yearIs(there, 0, 1, 0, 5);
        yearIs(there, 0, 2, 0, 20);
        yearIs(there, 0, 3, 0, 45);
        CabTears here = Check.laid("g1,1;c0,0,0;f2,0,0,0,0;");
        yearIs(here, 0, 4, 0, 0);
        yearIs(here, 0, 5, 0, 1);
        yearIs(here, 0, 6, 0, 1 + 3);
        yearIs(here, 0, 7, 0, 1 + 3 + 6);
        CabTears girl = Check.laid("g1,1;c0,0,0;f1,0,0,0,0;f2,0,0,0,0;");
        yearIs(girl, 0, 1, 1, 0);
        yearIs(girl, 0, 2, 1, 1);
        yearIs(girl, 0, 3, 2, 3);
        yearIs(girl, 0, 4, 2, 6);
        CabTears three = Check.laid("g1,3;c0,0,0;c0,1,1;c0,2,2;f2,0,0,0,0;");
        yearIs(three, 0, 1, 0, 1);
        yearIs(three, 0, 4, 0, 1);
        // TAKEN or not, from now on; nothing changes
        girl.take(0, 0);
        girl.pass(5);
        yearIs(girl, 0, 1, 1, 6);
        Check.fareIs(girl, 0, 1, 0, 1);
        Check.fareIs(girl, 1, 0, -4, 0);
        Check.due("count(4)", girl.count(4), 5);
        Check.due("count(8)", girl.count(8), 2);
    }

    /** By 9999 the DRAWS are 51303, 32612, 6768: of 7 the FARES 1, 5, 5; STEPS 1, 5, 1. */
    private static void yearByDraws() {
        String girls = "f1,0,0,0,0;";
        String stoics = "f2,0,0,0,0;";
        CabTears x = Check.laid("g1,1;c0,0,0;" + stoics.repeat(5) + girls + stoics);
        yearIs(x, 9999, 1, 0, 0);
        yearIs(x, 9999, 2, 1, 1);
        yearIs(x, 9999, 3, 2, 1 + 7);
        yearIs(new CabTears(), 5, 40, 23, 3451);
    }

    private static void yearWrong() {
        CabTears x = new CabTears();
        for (int bad : new int[] {-1, 10000, MAX, MIN}) Check.due("year(" + bad + ", 1, 0)", x.year(bad, 1, 0), -1);
        for (int bad : new int[] {-1, 0, 41, MAX, MIN}) Check.due("year(1, " + bad + ", 0)", x.year(1, bad, 0), -1);
        for (int bad : new int[] {-1, 2, MAX, MIN}) Check.due("year(1, 1, " + bad + ")", x.year(1, 1, bad), -1);
    }

    private static void keep() {
        CabTears x = Check.laid(RidesTest.LINE);
        Check.due("keep()", x.keep(), 1);
        x.pass(1);
        Check.due("keep()", x.keep(), 2);
        Check.due("keep(), the third", x.keep(), -3);
        Check.due("count(9)", x.count(9), 2);
        Check.due("count(8)", x.count(8), 1);
        Check.due("undo()", x.undo(), 0);
        Check.due("count(9)", x.count(9), 2);
        Check.due("back()", x.back(), 1);
        Check.due("count(4)", x.count(4), 1);
        Check.due("keep()", x.keep(), 2);
    }

    private static void back() {
        CabTears x = Check.laid(RidesTest.LINE);
        int letters = x.count(10);
        Check.due("back()", x.back(), -2);
        x.pass(7);
        x.take(1, 0);
        x.keep();
        x.take(0, 3);
        x.send(1, 0);
        x.see(0, 0, 1);
        x.keep();
        x.pass(9);
        x.take(2, 2);
        x.write(' ');
        Check.due("back()", x.back(), 1);
        int[] counts = {6, 6, 3, 4, 7, 2, 1, 1, 0, 1, letters + 1};
        for (int i = 0; i < counts.length; i++) Check.due("count(" + i + ")", x.count(i), counts[i]);
        Check.due("undo()", x.undo(), -2);
        Check.cabIs(x, 0, 5, 13, -4);
        Check.cabIs(x, 1, 0, 21, 4);
        Check.cabIs(x, 2, 0, 0, 5);
        Check.fareIs(x, 2, 0, -4, 0);
        x.pass(1);
        Check.due("undo() behind back()", x.undo(), 0);
        Check.due("back() to the first", x.back(), 0);
        Check.cabIs(x, 0, 0, 0, 3);
        Check.cabIs(x, 1, 4, 17, 4);
        Check.fareIs(x, 0, 1, 17, 1);
        Check.fareIs(x, 3, 0, -4, 0);
        x.pass(1);
        Check.due("back()", x.back(), -2);
        Check.due("count(8)", x.count(8), 1);
        Check.due("count(4)", x.count(4), 8);
    }

    private static void count() {
        CabTears x = Check.laid("g2,3;c0,0,3;c1,5,2;f1,1,4,0,9;f2,1,4,0,9;f1,2,2,5,0;");
        x.take(0, 0);
        x.take(1, 1);
        x.take(0, 2);
        x.pass(9);
        x.see(0, 0, 1);
        x.see(0, 1, 1);
        x.keep();
        int[] counts = {6, 3, 2, 3, 9, 3, 2, 2, 4, 1, 52};
        for (int i = 0; i < counts.length; i++) Check.due("count(" + i + ")", x.count(i), counts[i]);
        CabTears seven = Check.laid("g1,1;c0,0,0;" + "f1,0,0,0,0;".repeat(7));
        for (int f = 0; f < 7; f++) {
            seven.take(0, f);
            Check.due("count(5)", seven.count(5), f + 1);
            Check.due("count(6)", seven.count(6), f + 1);
        }
        for (int bad : new int[] {-1, 11, MAX, MIN}) Check.due("count(" + bad + ")", x.count(bad), -1);
    }
}
