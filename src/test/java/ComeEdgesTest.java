/** Terms, 3: every bound that is told of what comes (SOONEST to RIVALS), on both sides of it. */
public final class ComeEdgesTest {
    private static final int BAD = Told.BAD, NO = Told.NO, NONE = Told.NONE;
    /** Behind 45 days as behind 20; begun four days later, behind 41 as behind 16. */
    private static final String FORTY_FIVE = "g5,6;c2,15,21;c2,19,11;c2,6,13;", BEGUN_4 = "g5,6;c2,23,23;c2,22,16;c2,16,13;",
        BEGUN_5 = "g5,6;c2,16,16;c2,22,16;c2,23,23;", THEIR_FARES = "f2,12,22,9,7;f3,23,20,14,7;f0,1,16,16,10;f3,1,23,16,14;";
    private static final String OTHER_FARES = "f0,12,16,18,19;f2,6,6,8,7;f3,15,17,6,8;f1,6,0,0,17;f0,7,13,14,11;";

    public static void main(String[] args) {
        Check.test("'he would be LATE least': by a step", ComeEdgesTest::soonestByAStep);
        Check.test("'of several the lowest': SOONEST of two and of three alike", ComeEdgesTest::soonestOfSeveral);
        Check.test("'SOONEST for a FARE': one CAB alone; a FARE that is TAKEN", ComeEdgesTest::soonestOfOne);
        Check.test("'REST are FARES that are not TAKEN': from 7 down to none", ComeEdgesTest::rest);
        Check.test("ORDER, 'how many .., the k-th ..; none': k up to REST and beyond", ComeEdgesTest::orderOfAny);
        Check.test("'by which fewest WEEP': one fewer, and as many", ComeEdgesTest::orderByOne);
        Check.test("'of several the first (by the first FARE, then the second, ..)'", ComeEdgesTest::orderOfSeveral);
        Check.test("WAITING, the first PLACE and the last", ComeEdgesTest::waitingAtEnds);
        Check.test("WAITING, 'of several the lowest': alike, and a step less", ComeEdgesTest::waitingOfSeveral);
        Check.test("WAITING for none of REST, for one, for some", ComeEdgesTest::waitingForRest);
        Check.test("WAITING, 'each by a RIDE of it as if he were the first'", ComeEdgesTest::waitingEach);
        Check.test("ROUND, 'the fewest (1 ..': behind a day as now", ComeEdgesTest::roundOfOne);
        Check.test("ROUND, '(1 to 40)': 39, 40, 41, more", ComeEdgesTest::roundOfForty);
        Check.test("ROUND, 'behind which both are': one of them alone is not enough", ComeEdgesTest::roundOfBoth);
        Check.test("ROUND, 'it is step 0, all CABS are FREE at it where they are, no FARE is TAKEN'",
            ComeEdgesTest::roundOfAnyNow);
        Check.test("MENDS, 'and 10': the least, the most, neither", ComeEdgesTest::mendsAndTen);
        Check.test("MENDS, 'NO: TAKEN, no BREWER'", ComeEdgesTest::mendsNo);
        Check.test("MENDS, 'of REST': alone, with one, with those TAKEN", ComeEdgesTest::mendsOfRest);
        Check.test("RIVALS, 'n (1 to 4) times in all': each of them", ComeEdgesTest::rivalsTimes);
        Check.test("RIVALS, '(no more than there are of REST)'", ComeEdgesTest::rivalsOfRest);
        Check.test("RIVALS, 'and 10': 2 more, 2 less", ComeEdgesTest::rivalsAndTen);
        Check.test("RIVALS, '(of several the lowest; none)'", ComeEdgesTest::rivalsOfSeveral);
        Check.test("RIVALS, 'both looking ahead': 1 to 4 times, no FARE twice", ComeEdgesTest::rivalsAhead);
        Check.test("RIVALS, 'BAD (alike, too)'", ComeEdgesTest::rivalsAlike);
        Check.end();
    }

    private static void soonestByAStep() {
        Told t = Told.city("g1,6;c0,0,0;c0,5,5;f2,2,2,0,0;f2,3,3,0,0;").due(0, "soonest(0)").due(1, "soonest(1)");
        // CAB 0 goes to and fro: FREE at 4, in 0, it is as SOON as CAB 1, at 5 no more
        Told u = Told.city("g1,6;c0,0,0;c0,4,4;f2,0,0,0,0;").then("send(0, 2)", "send(0, 0)").due(4, "cab(0, 2)");
        u.due(0, "soonest(0)").then("undo()", "send(0, 5)", "send(0, 0)").due(1, "soonest(0)");
        // a step at which it stands decides
        Told.city("g1,6;c1,2,3;c0,2,3;c2,2,3;f2,2,2,0,0;").due(1, "soonest(0)");
        Told.city("g1,6;c0,1,5;c2,3,5;f2,1,1,0,0;").due(1, "soonest(0)");
    }

    private static void soonestOfSeveral() {
        Told t = Told.city("g1,6;c0,2,2;c0,0,0;c0,4,4;f2,1,1,0,0;f2,3,3,0,0;f2,2,2,0,0;f2,4,4,0,0;f2,5,5,0,0;f2,0,0,0,0;");
        t.row("soonest(#)", 0, 0, 0, 2, 2, 1, BAD);
        Told.city("g1,6;c0,5,5;c0,0,0;c0,2,2;f2,1,1,0,0;f2,5,5,0,0;").row("soonest(#)", 1, 0, BAD);
        Told.city("g1,6;c0,3,3;c1,3,3;c2,3,3;f2,0,5,0,0;").due(0, "soonest(0)");
        Told.city("g1,6;c0,0,0;c0,3,3;c0,3,3;f2,5,5,99,0;").due(1, "soonest(0)");
    }

    private static void soonestOfOne() {
        Told t = Told.city("g6,6;c1,35,1;f2,0,0,0,0;f2,5,5,0,0;").row("soonest(#)", 0, 0, BAD).then("take(0, 0)");
        t.row("soonest(#)", 0, 0, BAD).due(BAD, "soonest(-1)");
        Told two = Told.city("g1,6;c0,0,0;c0,5,5;f2,0,5,0,0;").due(0, "soonest(0)").then("take(0, 0)").due(1, "soonest(0)");
        two.then("take(0, 0)", "undo()").due(0, "soonest(0)");
    }

    private static void rest() {
        Told t = Told.city("g1,1;c0,0,0;" + "f1,0,0,0,0;".repeat(7)).order(7, 0, 1, 2, 3, 4, 5, 6);
        t.then("take(0, 3)").order(6, 0, 1, 2, 4, 5, 6).then("take(0, 0)").order(5, 1, 2, 4, 5, 6);
        t.then("take(0, 6)").order(4, 1, 2, 4, 5).then("take(0, 1)").order(3, 2, 4, 5).then("take(0, 4)").order(2, 2, 5);
        t.then("take(0, 5)").order(1, 2).then("take(0, 2)").order(0);
        t.then("undo()").order(1, 2).then("undo()").order(2, 2, 5);
    }

    private static void orderOfAny() {
        for (int n = 1; n <= 7; n++) {
            Told t = Told.city("g1,1;c0,0,0;" + "f2,0,0,0,0;".repeat(n));
            t.due(0, "order(0)").due(n - 1, "order(" + n + ")");
            for (int k = n + 1; k <= 7; k++) t.due(NONE, "order(" + k + ")");
            t.due(BAD, "order(8)", "order(-1)", "order(" + Told.MAX + ")", "order(" + Told.MIN + ")");
            for (int f = 0; f < n; f++) t.then("take(0, " + f + ")");
            t.due(0, "order(0)").due(NONE, "order(1)", "order(7)").due(BAD, "order(8)", "order(-1)");
        }
    }

    private static void orderByOne() {
        Told.city("g1,6;c0,0,0;f0,5,5,0,9;f0,0,0,0,10;").order(0, 0, 1);
        Told.city("g1,6;c0,0,0;f0,5,5,0,9;f0,0,0,0,9;").order(0, 1, 0);
        Told.city("g1,6;c0,0,0;f0,5,5,0,4;f0,0,0,0,20;").order(1, 1, 0);
        Told.city("g1,6;c0,0,0;f0,5,5,0,4;f0,0,0,0,21;").order(1, 0, 1);
    }

    private static void orderOfSeveral() {
        // the STOIC may be anywhere; the other two must be so
        Told.city("g1,6;c0,0,0;f2,0,0,0,0;f0,5,5,0,9;f0,0,0,0,9;").order(0, 0, 2, 1);
        Told.city("g1,6;c0,0,0;f0,5,5,0,9;f2,0,0,0,0;f0,0,0,0,9;").order(0, 1, 2, 0);
        Told.city("g1,6;c0,0,0;f0,5,5,0,9;f0,0,0,0,9;f2,0,0,0,0;").order(0, 1, 0, 2);
        Told.city("g1,6;c0,0,0;f0,5,5,0,9;f0,0,0,0,10;f2,0,0,0,0;").order(0, 0, 1, 2);
        // all orders alike, whoever WEEPS
        Told.city("g1,6;c0,0,0;f0,5,5,0,0;f0,5,5,0,0;f1,5,5,0,0;").order(3, 0, 1, 2);
    }

    private static void waitingAtEnds() {
        Told.city("g6,6;c0,0,0;f2,35,35,99,0;").row("waiting(0, #)", 35, 0, BAD);
        Told.city("g6,6;c0,35,35;f2,0,0,99,0;").row("waiting(0, #)", 0, 0, BAD);
        Told.city("g1,1;c0,0,0;f2,0,0,0,0;").row("waiting(0, #)", 0, 0, BAD);
        Told.city("g6,1;c0,0,0;c0,5,5;f2,5,5,99,0;").row("waiting(0, #)", 5, 0).row("waiting(1, #)", 5, 0)
            .due(BAD, "waiting(2, 0)");
    }

    private static void waitingOfSeveral() {
        Told.city("g1,6;c0,3,3;f2,0,0,50,0;f2,4,4,50,0;").row("waiting(0, #)", 0, 4);
        Told.city("g1,6;c0,3,3;f2,1,1,50,0;f2,4,4,50,0;").row("waiting(0, #)", 1, 3);
        // every way from 35 to 0 is as long, by whatever PLACE
        Told.city("g6,6;c0,35,35;f2,0,0,0,0;").row("waiting(0, #)", 0, 10);
        Told.city("g6,6;c0,0,0;f2,35,35,0,0;").row("waiting(0, #)", 0, 10);
        Told.city("g6,6;c0,0,0;f2,35,35,1,0;").row("waiting(0, #)", 1, 9);
    }

    private static void waitingForRest() {
        Told t = Told.city("g1,6;c0,0,0;c0,4,4;f2,5,5,50,0;f2,3,3,50,0;f2,3,3,50,0;").row("waiting(0, #)", 3, 2);
        t.then("take(0, 1)").row("waiting(0, #)", 3, 5 + 3);
        Told u = Told.city("g1,6;c0,0,0;c0,4,4;f2,5,5,50,0;f2,3,3,50,0;f2,3,3,50,0;").then("take(1, 1)");
        u.row("waiting(0, #)", 3, 2).then("take(1, 2)").row("waiting(0, #)", 5, 0).then("take(1, 0)");
        u.row("waiting(0, #)", 0, 0).row("waiting(1, #)", 0, 0).due(BAD, "waiting(0, 2)", "waiting(2, 0)", "waiting(-1, 0)");
        u.then("undo()").row("waiting(0, #)", 5, 0).due(2, "count(5)", "count(8)");
    }

    private static void waitingEach() {
        // one behind the other the second would be LATE by 5 and more
        Told.city("g1,6;c0,0,0;f2,0,5,50,0;f2,0,5,50,0;").row("waiting(0, #)", 0, 10);
        // a GIRL's tears do not reach the next one
        Told.city("g1,6;c0,0,0;f1,0,0,50,0;f2,0,0,50,0;").row("waiting(0, #)", 0, 0);
        // not FREE yet, and driven by where one WEPT
        Told t = Told.city("g1,6;c1,0,2;f2,0,0,0,0;").then("send(0, 1)", "send(0, 0)", "pass(1)");
        t.row("waiting(0, #)", 0, 2 + 2 + 3 + 2).then("pass(60)").row("waiting(0, #)", 0, 61 + 2 + 3 + 2);
    }

    private static void round(Told t, int days, int first) {
        t.row("round(#)", days, first, BAD).due(BAD, "round(-1)", "round(" + Told.MAX + ")", "round(" + Told.MIN + ")");
    }

    private static void roundOfOne() {
        round(Told.city("g1,1;c0,0,0;f2,0,0,0,0;"), 1, 0);
        round(Told.city("g1,6;c0,5,5;f2,0,5,0,0;"), 1, 0);
        round(Told.city("g1,6;c0,0,0;f2,0,5,0,0;"), 2, 1);
        round(Told.city("g1,6;c0,5,3;f2,0,5,0,0;"), 1, 0);
        round(Told.city("g1,6;c0,0,0;c0,5,5;f2,0,5,0,0;f2,5,0,0,0;"), 2, 0);
    }

    private static void roundOfForty() {
        round(Told.city("g6,3;c0,16,11;c2,8,0;c2,9,11;f2,12,5,15,5;f3,1,14,10,3;f0,14,0,13,8;f2,14,1,18,8;f2,0,16,6,3;"), 39,
            15);
        round(Told.city(BEGUN_5 + THEIR_FARES), 40, 15);
        round(Told.city(BEGUN_4 + THEIR_FARES), NONE, NONE);
        round(Told.city(FORTY_FIVE + THEIR_FARES), NONE, NONE);
        // as now, behind 40 days; begun a day earlier it would be 41 as behind 1
        round(Told.city("g6,3;c2,16,0;c2,0,13;c2,1,0;" + OTHER_FARES).then("send(1, 13)", "send(2, 0)"), 40, 0);
        round(Told.city("g6,3;c2,16,0;c2,17,0;c2,0,13;" + OTHER_FARES).then("send(2, 13)"), NONE, NONE);
    }

    private static void roundOfBoth() {
        // the CAB is where it was, but one WEPT in it elsewhere; then nowhere, then both again
        round(Told.city("g1,6;c0,5,5;f1,0,5,0,0;"), 2, 1);
        round(Told.city("g1,6;c0,5,3;f1,0,5,0,0;"), 2, 1);
        round(Told.city("g1,6;c0,0,3;f3,0,0,0,0;"), 2, 1);
        // PLACE 0 is not nowhere
        round(Told.city("g1,6;c0,1,0;f3,1,1,0,0;"), 2, 1);
        round(Told.city("g1,6;c0,0,0;f1,0,0,0,0;"), 2, 1);
        // one WEPT nowhere all the time, the CAB goes on
        round(Told.city("g1,6;c0,0,0;f2,0,5,0,0;"), 2, 1);
        // the second CAB alone
        round(Told.city("g1,6;c0,0,0;c0,5,5;f2,0,0,0,0;f2,4,4,0,0;"), 2, 1);
        round(Told.city("g1,6;c0,0,0;c0,5,5;f2,0,0,0,0;f1,5,5,0,0;"), 2, 1);
    }

    private static void roundOfAnyNow() {
        Told t = Told.city("g1,6;c0,0,0;f0,0,5,0,5;");
        round(t, 3, 2);
        t.then("pass(60)", "pass(60)", "send(0, 5)", "send(0, 0)");
        round(t, 3, 2);
        t.cab(0, 0, 130, NONE).due(120, "count(4)").then("take(0, 0)").cab(0, 5, 135, 5);
        // where it stands and where one WEPT now count, TAKEN or not: LATE by 11, WEEPING in 5 again
        round(t, 1, 0);
        t.fare(0, 1, 135, 1).cab(0, 5, 135, 5).due(120, "count(4)").due(5, "count(8)");
    }

    private static void mendsAndTen() {
        String six = "f0,0,0,11,0;".repeat(6);
        Told.city("g1,6;c0,0,5;f3,0,0,0,0;" + six).due(16, "mends(0)");
        Told.city("g1,6;c0,0,5;" + six + "f3,0,0,0,0;").due(16, "mends(6)");
        Told.city("g1,6;c0,0,5;f3,0,0,0,0;" + "f0,0,0,11,11;" + "f2,0,0,11,0;".repeat(5)).due(10, "mends(0)");
        Told.city("g1,6;c0,0,5;f3,0,0,0,0;" + "f0,0,0,11,10;" + "f2,0,0,11,0;".repeat(5)).due(11, "mends(0)");
        Told.city("g1,6;c0,0,0;" + "f0,0,0,0,9;".repeat(6) + "f3,5,5,0,0;").due(4, "mends(6)");
        Told.city("g1,6;c0,0,0;" + "f0,0,0,0,10;".repeat(6) + "f3,5,5,0,0;").due(10, "mends(6)");
        Told.city("g1,6;c0,0,0;f3,0,0,0,0;" + "f1,0,0,0,0;".repeat(6)).due(10, "mends(0)");
    }

    private static void mendsNo() {
        Told t = Told.city("g1,6;c0,0,5;f0,0,0,0,0;f1,0,0,0,0;f2,0,0,0,0;f3,0,0,0,0;").row("mends(#)", NO, NO, NO, 10, BAD);
        t.due(BAD, "mends(-1)", "mends(" + Told.MAX + ")", "mends(" + Told.MIN + ")").then("take(0, 3)");
        t.row("mends(#)", NO, NO, NO, NO, BAD).then("take(0, 0)").row("mends(#)", NO, NO, NO, NO, BAD).then("undo()", "undo()");
        t.due(10, "mends(3)").due(0, "count(5)");
    }

    private static void mendsOfRest() {
        Told.city("g1,6;c0,0,5;f3,5,5,0,0;").due(10, "mends(0)");
        Told t = Told.city("g1,6;c0,0,0;c0,5,5;f0,0,0,0,0;f3,5,5,0,0;f0,0,0,0,0;").due(10, "mends(1)");
        Told u = Told.city("g1,6;c0,0,0;f0,0,0,0,0;f3,5,5,0,0;f0,0,0,0,0;").due(8, "mends(1)").then("take(0, 0)")
            .due(9, "mends(1)");
        u.then("take(0, 2)").due(10, "mends(1)").then("take(0, 1)").due(NO, "mends(1)");
        // two BREWERS: each of them by himself, the other one in his order
        Told two = Told.city("g1,6;c0,0,0;f3,5,5,0,0;f0,0,0,0,0;f3,5,5,0,0;").due(9, "mends(0)").due(10, "mends(2)");
        two.then("take(0, 0)").due(10, "mends(2)").then("undo()", "take(0, 1)").due(10, "mends(0)", "mends(2)");
    }

    private static void rivalsTimes() {
        Told girls = Told.city("g1,1;c0,0,0;c0,0,0;" + "f1,0,0,0,0;".repeat(5));
        girls.rivals(0, 1, 1, 11, 0).rivals(0, 1, 2, 10, 0).rivals(0, 1, 3, 11, 0).rivals(0, 1, 4, 10, 0);
        girls.due(BAD, "rivals(0, 1, 0, 0)", "rivals(0, 1, 5, 0)", "rivals(0, 1, -1, 1)", "rivals(0, 1, " + Told.MAX + ", 0)");
        girls.due(BAD, "rivals(0, 1, " + Told.MIN + ", 1)", "rivals(0, 1, 1, 2)", "rivals(0, 1, 1, -1)").due(0, "count(5)");
    }

    private static void rivalsOfRest() {
        Told girls = Told.city("g1,1;c0,0,0;c0,0,0;" + "f1,0,0,0,0;".repeat(4));
        girls.rivals(0, 1, 3, 11, 0).rivals(0, 1, 4, 10, 0).then("take(0, 0)");
        girls.rivals(0, 1, 2, 10, 1).rivals(0, 1, 3, 11, 1).rivals(0, 1, 4, 11, 1).then("take(0, 1)");
        girls.rivals(0, 1, 1, 11, 2).rivals(0, 1, 2, 10, 2).rivals(0, 1, 3, 10, 2).rivals(0, 1, 4, 10, 2).then("take(0, 2)");
        for (int n = 1; n <= 4; n++) girls.rivals(1, 0, n, 11, 3);
        girls.then("take(0, 3)");
        for (int n = 1; n <= 4; n++) girls.rivals(1, 0, n, 10, NONE);
        girls.due(BAD, "rivals(0, 1, 5, 1)", "rivals(0, 0, 1, 1)", "rivals(0, 2, 1, 1)", "rivals(0, 1, 1, 2)");
    }

    private static void rivalsAndTen() {
        Told t = Told.city("g1,6;c0,0,0;c0,5,5;" + "f0,5,5,0,2;".repeat(4));
        t.rivals(0, 1, 1, 11, 0).rivals(0, 1, 2, 11, 0).rivals(0, 1, 3, 12, 0).rivals(0, 1, 4, 12, 0);
        t.rivals(1, 0, 1, 10, 0).rivals(1, 0, 2, 9, 0).rivals(1, 0, 3, 9, 0).rivals(1, 0, 4, 8, 0).due(0, "count(5)");
    }

    private static void rivalsOfSeveral() {
        Told.city("g1,1;c0,0,0;c0,0,0;f2,0,0,0,0;f2,0,0,0,0;").rivals(0, 1, 1, 10, 0).rivals(1, 0, 2, 10, 0);
        Told.city("g1,1;c0,0,0;c0,0,0;f1,0,0,0,0;f2,0,0,0,0;f2,0,0,0,0;").rivals(0, 1, 1, 10, 1).rivals(0, 1, 2, 10, 1);
        Told.city("g1,1;c0,0,0;c0,0,0;f1,0,0,0,0;f1,0,0,0,0;f2,0,0,0,0;").rivals(0, 1, 1, 10, 2).rivals(0, 1, 2, 9, 2);
        Told.city("g1,1;c0,0,0;c0,0,0;f1,0,0,0,0;").rivals(0, 1, 1, 11, 0).then("take(0, 0)").due(NONE, "rivals(0, 1, 1, 1)");
    }

    private static void rivalsAhead() {
        String girl = "f1,0,0,0,0;", stoic = "f2,0,0,0,0;", cabs = "g1,1;c0,0,0;c0,0,0;";
        // whoever can leaves the GIRL; who has nobody else takes her
        Told.city(cabs + stoic + stoic + girl).rivals(0, 1, 1, 10, 0).rivals(0, 1, 2, 10, 0).rivals(0, 1, 3, 11, 0)
            .rivals(0, 1, 4, 11, 0);
        Told.city(cabs + stoic + girl + girl).rivals(0, 1, 1, 10, 0).rivals(0, 1, 2, 9, 0).rivals(0, 1, 3, 10, 0)
            .rivals(0, 1, 4, 10, 0);
        Told.city(cabs + girl + stoic + girl).rivals(0, 1, 2, 9, 1).rivals(0, 1, 3, 10, 1);
        Told.city(cabs + girl + girl + girl + stoic).rivals(1, 0, 1, 10, 3).rivals(1, 0, 2, 9, 3).rivals(1, 0, 3, 10, 3)
            .rivals(1, 0, 4, 9, 3);
        Told.city(cabs + stoic + stoic + stoic + girl).rivals(0, 1, 3, 10, 0).rivals(0, 1, 4, 9, 0).rivals(1, 0, 4, 9, 0);
        Told.city(cabs + stoic.repeat(4) + girl).rivals(0, 1, 4, 10, 0).rivals(0, 1, 3, 10, 0);
        // three times: whoever he drives to 5 first, the second one leaves the one in 0 to him
        Told t = Told.city("g1,6;c0,0,0;c0,0,0;f2,0,5,0,0;f0,0,0,0,0;f0,5,5,0,5;");
        t.rivals(0, 1, 1, 10, 0).rivals(0, 1, 2, 10, 0).rivals(0, 1, 3, 10, 1);
    }

    private static void rivalsAlike() {
        Told t = new Told();
        for (int c = 0; c < 3; c++) {
            for (int e = 0; e < 3; e++) {
                int got = t.answer("rivals(" + c + ", " + e + ", 1, 1)");
                Check.due("rivals(" + c + ", " + e + ", 1, 1) is BAD", got == BAD ? 1 : 0, c == e ? 1 : 0);
            }
        }
        for (int n = -1; n <= 5; n++) t.due(BAD, "rivals(2, 2, " + n + ", 0)");
        Told.city("g1,1;c0,0,0;f2,0,0,0,0;").due(BAD, "rivals(0, 0, 1, 0)", "rivals(0, 1, 1, 0)", "rivals(1, 0, 1, 0)");
    }
}
