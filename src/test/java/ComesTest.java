/** Promises 13 to 19: what would come. */
public final class ComesTest {
    private static final int MAX = Integer.MAX_VALUE, MIN = Integer.MIN_VALUE;
    /** Behind 40 days as behind fewer: just within what is looked at. */
    private static final String FORTY = "g6,1;c2,4,1;c2,4,0;c2,1,1;f0,0,4,19,5;f0,4,3,18,3;f2,2,0,19,14;f0,2,2,18,6;";
    private static final String NEVER = "g3,4;c2,4,6;c2,11,11;c2,10,7;f2,4,6,3,14;f1,6,10,1,4;f3,0,8,0,14;f0,11,4,3,6;";

    public static void main(String[] args) {
        Check.test("promise 13 ride", ComesTest::ride);
        Check.test("promise 13 ride: from when on", ComesTest::rideLater);
        Check.test("promise 13 ride BAD", ComesTest::rideWrong);
        Check.test("promise 14 soonest", ComesTest::soonest);
        Check.test("promise 15 order", ComesTest::order);
        Check.test("promise 15 order of several", ComesTest::orderOfSeveral);
        Check.test("promise 16 waiting", ComesTest::waiting);
        Check.test("promise 17 round", ComesTest::round);
        Check.test("promise 17 round of many days", ComesTest::roundOfMany);
        Check.test("promise 18 mends", ComesTest::mends);
        Check.test("promise 19 rivals", ComesTest::rivals);
        Check.test("promise 19 rivals look ahead", ComesTest::rivalsAhead);
        Check.test("promise 19 rivals BAD", ComesTest::rivalsWrong);
        Check.end();
    }

    private static void ride() {
        CabTears x = Check.laid(RidesTest.LINE);
        Check.rideIs(x, 0, 0, 5, 5, 0, 1);
        Check.rideIs(x, 0, 1, 10, 5, 1, 1);
        Check.rideIs(x, 0, 2, 12, 9, 0, 1);
        Check.rideIs(x, 0, 3, 6, 6, 0, 1);
        Check.rideIs(x, 1, 0, 10, 10, 1, 1);
        Check.rideIs(x, 1, 1, 11, 6, 1, 1);
        Check.rideIs(x, 1, 2, 11, 8, 0, 1);
        Check.rideIs(x, 1, 3, 9, 9, 0, 1);
        Check.rideIs(x, 2, 0, 4, 4, 0, 0);
        Check.rideIs(x, 2, 1, 14, 9, 1, 1);
        Check.rideIs(x, 2, 2, 14, 11, 0, 1);
        Check.rideIs(x, 2, 3, 6, 6, 0, 1);
        Check.due("count(5)", x.count(5), 0);
        Check.due("count(8)", x.count(8), 0);
    }

    private static void rideLater() {
        CabTears x = Check.laid(RidesTest.LINE);
        x.pass(4);
        Check.rideIs(x, 0, 0, 9, 9, 0, 1);
        Check.rideIs(x, 0, 1, 10, 5, 1, 1);
        x.pass(1);
        Check.rideIs(x, 0, 0, 10, 10, 1, 1);
        x.take(0, 0);
        // TAKEN already, once more: from 4 back to 1, to 4, where one wept, a step
        Check.rideIs(x, 0, 0, 10 + 3 + 3 + 1, 17, 1, 1);
        x.pass(6);
        Check.rideIs(x, 0, 1, 11 + 2 + 2 + 1 + 2, 13, 1, 1);
    }

    private static void rideWrong() {
        CabTears x = Check.laid(RidesTest.LINE);
        for (int bad : new int[] {-1, 3, MAX, MIN}) Check.due("ride(" + bad + ", 0, 0)", x.ride(bad, 0, 0), -1);
        for (int bad : new int[] {-1, 4, MAX, MIN}) Check.due("ride(0, " + bad + ", 0)", x.ride(0, bad, 0), -1);
        for (int bad : new int[] {-1, 4, MAX, MIN}) Check.due("ride(0, 0, " + bad + ")", x.ride(0, 0, bad), -1);
    }

    private static void soonest() {
        CabTears x = Check.laid(RidesTest.LINE);
        int[] due = {2, 0, 1, 0};
        for (int f = 0; f < 4; f++) Check.due("soonest(" + f + ")", x.soonest(f), due[f]);
        x.take(2, 0);
        Check.due("soonest(0), TAKEN", x.soonest(0), 0);
        // the CAB 0 is FREE at 9 then, the CAB 2 comes from 4
        x.send(0, 5);
        x.send(0, 1);
        Check.due("soonest(3)", x.soonest(3), 2);
        for (int bad : new int[] {-1, 4, MAX, MIN}) Check.due("soonest(" + bad + ")", x.soonest(bad), -1);
        CabTears one = Check.laid("g1,6;c0,0,0;f0,5,5,0,0;");
        Check.due("soonest(0) of one", one.soonest(0), 0);
    }

    private static void order() {
        CabTears x = Check.laid("g1,6;c0,0,0;f0,5,5,0,9;f0,0,0,0,0;");
        Check.orderIs(x, 0, 1, 0);
        x.take(0, 0);
        Check.orderIs(x, 1, 1);
        x.take(0, 1);
        Check.orderIs(x, 0);
        for (int bad : new int[] {-1, 8, MAX, MIN}) Check.due("order(" + bad + ")", x.order(bad), -1);
        Check.orderIs(Check.laid("g1,6;c0,0,0;f1,0,0,0,0;f0,0,5,0,5;"), 1, 1, 0);
        Check.orderIs(Check.laid("g1,6;c0,0,0;f0,0,5,0,5;f1,0,0,0,0;"), 1, 0, 1);
    }

    private static void orderOfSeveral() {
        // all in the first order that comes: whoever goes first, nobody WEEPS
        Check.orderIs(Check.laid("g1,1;c0,0,0;" + "f2,0,0,0,0;".repeat(7)), 0, 0, 1, 2, 3, 4, 5, 6);
        Check.orderIs(Check.laid("g1,1;c0,0,0;" + "f1,0,0,0,0;".repeat(7)), 7, 0, 1, 2, 3, 4, 5, 6);
        // all PLAIN ones WEEP in every order
        Check.orderIs(Check.laid("g1,2;c0,1,1;f0,0,0,0,0;f0,0,0,0,0;"), 2, 0, 1);
        Check.orderIs(Check.laid("g1,2;c0,1,1;f2,0,0,0,0;f0,0,0,0,0;f0,0,0,0,0;"), 2, 0, 1, 2);
        // each one of these has to be ahead of the next but one of the GIRLS' tears
        Check.orderIs(Check.laid("g1,1;c0,0,0;f1,0,0,0,0;f0,0,0,0,0;f1,0,0,0,0;f0,0,0,0,0;f2,0,0,0,0;"), 2, 1, 3, 0, 2, 4);
        // two CABS: the GIRL is taken by the one that is SOONEST, the PLAIN one by the other one then
        Check.orderIs(Check.laid("g1,6;c0,0,0;c0,1,1;f1,0,0,0,0;f0,0,0,0,1;"), 1, 0, 1);
        Check.orderIs(Check.laid("g1,6;c0,0,0;c0,2,2;f1,0,0,0,0;f0,0,0,0,0;"), 1, 1, 0);
    }

    private static void waiting() {
        CabTears x = Check.laid("g1,6;c0,0,0;f0,2,2,0,0;f0,4,4,9,0;");
        Check.due("waiting(0, 0)", x.waiting(0, 0), 2);
        Check.due("waiting(0, 1)", x.waiting(0, 1), 4);
        Check.due("count(8)", x.count(8), 0);
        x.take(0, 1);
        // FREE at 13 in 4, where one wept: 13 + (4 - p) steps, then |p - 2|, 2 to where one wept, 1, and 2 back
        Check.due("waiting(0, 1) then", x.waiting(0, 1), 13 + 2 + 2 + 1 + 2);
        Check.due("waiting(0, 0) then", x.waiting(0, 0), 2);
        x.take(0, 0);
        Check.due("waiting(0, 0) of none", x.waiting(0, 0), 0);
        Check.due("waiting(0, 1) of none", x.waiting(0, 1), 0);
        CabTears tie = Check.laid("g1,6;c0,3,3;f0,0,0,5,0;f0,4,4,5,0;");
        Check.due("waiting(0, 0) of several", tie.waiting(0, 0), 0);
        Check.due("waiting(0, 1) of several", tie.waiting(0, 1), 4);
        CabTears first = Check.laid("g1,6;c0,0,0;f0,0,0,0,0;");
        Check.due("waiting(0, 0), best in 0", first.waiting(0, 0), 0);
        Check.due("waiting(0, 1), best in 0", first.waiting(0, 1), 0);
        CabTears second = Check.laid("g1,6;c0,0,0;f0,1,1,1,0;");
        Check.due("waiting(0, 0), best in 1", second.waiting(0, 0), 1);
        Check.due("waiting(0, 1), best in 1", second.waiting(0, 1), 0);
        for (int bad : new int[] {-1, 1, 3, MAX, MIN}) Check.due("waiting(" + bad + ", 0)", x.waiting(bad, 0), -1);
        for (int bad : new int[] {-1, 2, MAX, MIN}) Check.due("waiting(0, " + bad + ")", x.waiting(0, bad), -1);
    }

    private static void roundIs(CabTears x, int days, int first) {
        Check.due("round(0)", x.round(0), days);
        Check.due("round(1)", x.round(1), first);
        for (int bad : new int[] {-1, 2, MAX, MIN}) Check.due("round(" + bad + ")", x.round(bad), -1);
    }

    private static void round() {
        roundIs(Check.laid("g1,6;c0,0,0;f2,0,5,0,0;"), 2, 1);
        roundIs(Check.laid("g1,6;c0,5,5;f2,0,5,0,0;"), 1, 0);
        roundIs(Check.laid("g1,6;c0,5,5;f1,0,5,0,0;"), 2, 1);
        roundIs(Check.laid("g1,6;c0,0,3;f3,0,0,0,0;"), 2, 1);
        CabTears sent = Check.laid("g1,6;c0,0,0;f2,0,5,0,0;");
        sent.send(0, 5);
        roundIs(sent, 1, 0);
        CabTears taken = Check.laid("g1,6;c0,0,0;f2,0,5,0,0;");
        taken.take(0, 0);
        roundIs(taken, 1, 0);
        // he does not WEEP on the first day, at step 0, however late it is now
        CabTears late = Check.laid("g1,6;c0,0,0;f0,0,5,0,5;");
        roundIs(late, 3, 2);
        late.pass(60);
        late.send(0, 5);
        late.send(0, 0);
        roundIs(late, 3, 2);
        Check.due("count(4)", late.count(4), 60);
        Check.cabIs(late, 0, 0, 70, -4);
        Check.fareIs(late, 0, 0, -4, 0);
    }

    private static void roundOfMany() {
        Check.due("round(0) of 40", Check.laid(FORTY).round(0), 40);
        roundIs(Check.laid(NEVER), -4, -4);
        roundIs(new CabTears(), 6, 3);
    }

    private static void mends() {
        CabTears x = Check.laid("g1,6;c0,0,5;f3,0,0,0,0;f0,0,0,0,11;f0,0,0,0,12;");
        Check.due("mends(0) one more", x.mends(0), 11);
        Check.due("count(5)", x.count(5), 0);
        x.pass(1);
        Check.due("mends(0), both WEEP in either order", x.mends(0), 10);
        x.take(0, 1);
        Check.due("mends(0) of two", x.mends(0), 10);
        for (int bad : new int[] {-1, 3, MAX, MIN}) Check.due("mends(" + bad + ")", x.mends(bad), -1);
        Check.due("mends(2), no BREWER", x.mends(2), -2);
        Check.due("mends(1), TAKEN", x.mends(1), -2);
        x.take(0, 0);
        Check.due("mends(0), TAKEN", x.mends(0), -2);
        Check.due("mends(1) one fewer", Check.laid("g1,6;c0,0,0;f0,0,0,0,0;f3,5,5,0,0;").mends(1), 9);
        Check.due("mends(0) alone", Check.laid("g1,6;c0,0,5;f3,5,5,0,0;").mends(0), 10);
        Check.due("mends(6)", Check.laid("g1,6;c0,0,0;" + "f0,0,0,0,9;".repeat(6) + "f3,5,5,0,0;").mends(6), 10 - 6);
        // behind him the PLAIN one is LATE by 11, since the GIRL stays ahead of him
        Check.due("mends(1)", Check.laid("g1,6;c0,0,0;f1,0,0,0,0;f3,5,5,0,0;f0,0,0,0,10;").mends(1), 9);
    }

    private static void rivalsIs(CabTears x, int c, int e, int n, int outcome, int first) {
        String call = "rivals(" + c + ", " + e + ", " + n + ", ";
        Check.due(call + "0)", x.rivals(c, e, n, 0), outcome);
        Check.due(call + "1)", x.rivals(c, e, n, 1), first);
    }

    private static void rivals() {
        CabTears x = Check.laid("g1,6;c0,0,0;c0,5,5;f0,5,5,0,2;f0,4,4,0,2;");
        rivalsIs(x, 0, 1, 1, 11, 0);
        rivalsIs(x, 0, 1, 2, 11, 0);
        rivalsIs(x, 0, 1, 4, 11, 0);
        rivalsIs(x, 1, 0, 1, 10, 0);
        rivalsIs(x, 1, 0, 2, 9, 0);
        Check.due("count(5)", x.count(5), 0);
        x.take(1, 0);
        rivalsIs(x, 1, 0, 2, 10, 1);
        x.take(1, 1);
        rivalsIs(x, 0, 1, 1, 10, -4);
        rivalsIs(x, 1, 0, 4, 10, -4);
        // GIRLS alone, 3 and 4 times: the first one has one more, then as many
        CabTears girls = Check.laid("g1,1;c0,0,0;c1,0,0;c2,0,0;" + "f1,0,0,0,0;".repeat(5));
        rivalsIs(girls, 2, 0, 1, 11, 0);
        rivalsIs(girls, 2, 0, 2, 10, 0);
        rivalsIs(girls, 2, 0, 3, 11, 0);
        rivalsIs(girls, 2, 0, 4, 10, 0);
        // each one leaves the GIRL to the other one
        CabTears left = Check.laid("g1,1;c0,0,0;c0,0,0;f1,0,0,0,0;f2,0,0,0,0;f2,0,0,0,0;");
        rivalsIs(left, 0, 1, 1, 10, 1);
        rivalsIs(left, 0, 1, 2, 10, 1);
        rivalsIs(left, 0, 1, 3, 11, 0);
    }

    private static void rivalsAhead() {
        CabTears x = Check.laid("g1,6;c0,0,0;c0,5,5;f0,0,0,0,0;f2,5,5,0,0;");
        rivalsIs(x, 0, 1, 1, 10, 0);
        rivalsIs(x, 0, 1, 2, 9, 1);
        rivalsIs(x, 1, 0, 2, 10, 1);
    }

    private static void rivalsWrong() {
        CabTears x = new CabTears();
        for (int bad : new int[] {-1, 3, MAX, MIN}) {
            Check.due("rivals(" + bad + ", 1, 1, 0)", x.rivals(bad, 1, 1, 0), -1);
            Check.due("rivals(1, " + bad + ", 1, 0)", x.rivals(1, bad, 1, 0), -1);
        }
        for (int c = 0; c < 3; c++) Check.due("rivals alike", x.rivals(c, c, 1, 0), -1);
        for (int bad : new int[] {-1, 0, 5, MAX, MIN}) Check.due("rivals(0, 1, " + bad + ", 0)", x.rivals(0, 1, bad, 0), -1);
        for (int bad : new int[] {-1, 2, MAX, MIN}) Check.due("rivals(0, 1, 1, " + bad + ")", x.rivals(0, 1, 1, bad), -1);
        CabTears one = Check.laid("g1,6;c0,0,0;f0,5,5,0,0;");
        Check.due("rivals(0, 1, 1, 0) of one CAB", one.rivals(0, 1, 1, 0), -1);
    }
}
