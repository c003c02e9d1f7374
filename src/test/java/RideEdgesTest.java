/** Terms, 2: every bound that is told of RIDES, of CABS that are SENT, of STEPS and what is UNDONE, on both sides of it. */
public final class RideEdgesTest {
    private static final int BAD = Told.BAD, NO = Told.NO, NONE = Told.NONE;

    public static void main(String[] args) {
        Check.test("'At first it is step 0, all CABS are FREE at step 0, no FARE is TAKEN'", RideEdgesTest::atFirst);
        Check.test("'at the latest of now, ..': now against T", RideEdgesTest::nowAndSince);
        Check.test("'at the latest of now, the step at which it is FREE, ..'", RideEdgesTest::nowAndFree);
        Check.test("'at the latest of .. the step at which it is FREE, and T'", RideEdgesTest::freeAndSince);
        Check.test("'then, if one WEPT anywhere in it last': nowhere and somewhere", RideEdgesTest::anywhere);
        Check.test("'then, if one WEPT anywhere in it last': 0 FAR, from where it stands, A, B", RideEdgesTest::noWay);
        Check.test("'stands there for a step (a SOFT one for 3)'", RideEdgesTest::stands);
        Check.test("'a BRISK one leaves that PLACE out, if it is more than 3 FAR from A': 3 and 4", RideEdgesTest::brisk);
        Check.test("'a BRISK one leaves that PLACE out': rows and columns, from A alone", RideEdgesTest::briskFromWhere);
        Check.test("'a BRISK one': no other leaves it out, however FAR", RideEdgesTest::noOtherLeavesOut);
        Check.test("'the CAB is in B, FREE; he is LATE by ..': by 0 and by more", RideEdgesTest::putDown);
        Check.test("'a PLAIN one, if he is LATE by more than he BEARS': H of 0", RideEdgesTest::plainZero);
        Check.test("'a PLAIN one, if he is LATE by more than he BEARS': H of 60", RideEdgesTest::plainSixty);
        Check.test("'A GIRL WEEPS': LATE by 0, with H of 60", RideEdgesTest::girl);
        Check.test("'a STOIC, a BREWER never': however LATE", RideEdgesTest::never);
        Check.test("'B is where one WEPT in it last': who WEEPS and who does not", RideEdgesTest::whereWept);
        Check.test("'If a BREWER was driven by that PLACE, one WEPT nowhere in it last'", RideEdgesTest::brewer);
        Check.test("'where one WEPT in it last (3; NONE: nowhere)': nowhere, PLACE 0, the last PLACE", RideEdgesTest::weptTold);
        Check.test("'1 if TAKEN (5), how LATE he was (6; NONE: not TAKEN), 1 if he WEPT (7)'", RideEdgesTest::fareTold);
        Check.test("'A FARE that is not TAKEN is TAKEN': once", RideEdgesTest::taken);
        Check.test("'at the later of now and the step at which it is FREE, and is FREE there'", RideEdgesTest::sent);
        Check.test("'A CAB is SENT': to where it stands; where one WEPT stays", RideEdgesTest::sentNowhere);
        Check.test("'n STEPS (1 to 60) go by'", RideEdgesTest::steps);
        Check.test("'(all that go by at one time are one'", RideEdgesTest::stepsAreOne);
        Check.test("'the last 8 can be': from 0 to 12 of STEPS", RideEdgesTest::undoneSteps);
        Check.test("'the last 8 can be': from 0 to 12 of CABS SENT", RideEdgesTest::undoneSent);
        Check.test("'the last 8 can be': FARES TAKEN, the first of them too many", RideEdgesTest::undoneTaken);
        Check.test("'the last 8 can be': again and again, some UNDONE between", RideEdgesTest::undoneAgain);
        Check.test("'UNDONE are the latest of these': what is refused or asked is none of them", RideEdgesTest::undoneOnly);
        Check.end();
    }

    private static void atFirst() {
        for (String city : new String[] {"g1,1;c0,0,0;f0,0,0,99,0;",
            "g6,6;c0,35,0;c1,0,35;c2,1,1;" + "f1,0,35,99,60;".repeat(7)}) {
            Told t = Told.city(city).due(0, "count(4)", "count(5)", "count(6)", "count(8)").due(NO, "undo()");
            for (int c = 0; c < t.answer("count(2)"); c++) t.due(0, "cab(" + c + ", 2)");
            for (int f = 0; f < t.answer("count(3)"); f++) t.fare(f, 0, NONE, 0);
        }
    }

    private static void nowAndSince() {
        Told t = Told.city("g1,1;c0,0,0;f2,0,0,5,0;f2,0,0,0,0;f2,0,0,99,0;");
        t.ride(0, 0, 5, 0, 0, 0).ride(0, 1, 0, 0, 0, 0).ride(0, 2, 99, 0, 0, 0);
        t.due(4, "pass(4)").ride(0, 0, 5, 0, 0, 0).ride(0, 1, 4, 4, 0, 0);
        t.due(5, "pass(1)").ride(0, 0, 5, 0, 0, 0);
        t.due(6, "pass(1)").ride(0, 0, 6, 1, 0, 0);
        t.then("pass(60)", "pass(33)").ride(0, 2, 99, 0, 0, 0).due(100, "pass(1)").ride(0, 2, 100, 1, 0, 0);
    }

    private static void nowAndFree() {
        Told t = Told.city("g1,6;c0,0,0;f2,5,5,0,0;").due(5, "send(0, 5)").ride(0, 0, 5, 5, 0, 0);
        t.due(4, "pass(4)").ride(0, 0, 5, 5, 0, 0).due(5, "pass(1)").ride(0, 0, 5, 5, 0, 0);
        t.due(6, "pass(1)").ride(0, 0, 6, 6, 0, 0).due(6, "take(0, 0)").cab(0, 5, 6, NONE);
    }

    private static void freeAndSince() {
        Told t = Told.city("g1,6;c0,0,0;f2,5,5,4,0;f2,5,5,5,0;f2,5,5,6,0;").then("send(0, 5)");
        t.ride(0, 0, 5, 1, 0, 0).ride(0, 1, 5, 0, 0, 0).ride(0, 2, 6, 0, 0, 0);
    }

    private static void anywhere() {
        Told t = Told.city("g1,6;c0,2,2;c0,2,3;c0,2,1;f2,2,5,0,0;");
        t.ride(0, 0, 3, 3, 0, 0).ride(1, 0, 1 + 1 + 2, 4, 0, 1).ride(2, 0, 1 + 1 + 4, 6, 0, 1);
    }

    private static void noWay() {
        // where the CAB stands itself: a GIRL WEPT there
        Told t = Told.city("g1,6;c0,0,0;f1,2,2,0,0;f2,2,5,0,0;f2,5,5,0,0;").due(2, "take(0, 0)").cab(0, 2, 2, 2);
        t.ride(0, 1, 2 + 1 + 3, 6, 0, 1).ride(0, 2, 2 + 3 + 3 + 1 + 3, 12, 0, 1);
        // A itself, B itself, both
        Told u = Told.city("g1,6;c0,0,2;f2,2,5,0,0;f2,1,2,0,0;f2,2,2,0,0;");
        u.ride(0, 0, 2 + 1 + 3, 6, 0, 1).ride(0, 1, 1 + 1 + 1, 3, 0, 1).ride(0, 2, 2 + 1, 3, 0, 1);
    }

    private static void stands() {
        Told t = Told.city("g1,6;c0,0,2;c1,0,2;c2,0,2;f2,2,5,0,0;f2,1,2,0,0;");
        t.ride(0, 0, 6, 6, 0, 1).ride(1, 0, 8, 8, 0, 1).ride(2, 0, 6, 6, 0, 1);
        t.ride(0, 1, 3, 3, 0, 1).ride(1, 1, 5, 5, 0, 1).ride(2, 1, 3, 3, 0, 1);
        Told none = Told.city("g1,6;c0,0,0;c1,0,0;c2,0,0;f2,2,5,0,0;");
        none.ride(0, 0, 5, 5, 0, 0).ride(1, 0, 5, 5, 0, 0).ride(2, 0, 5, 5, 0, 0);
    }

    private static void brisk() {
        Told t = Told.city("g1,6;c2,5,0;f2,3,3,0,0;f2,4,4,0,0;f2,5,5,0,0;f2,0,0,0,0;");
        t.ride(0, 0, 2 + 3 + 1 + 3, 9, 0, 1).ride(0, 1, 1, 1, 0, 0).ride(0, 2, 0, 0, 0, 0).ride(0, 3, 5 + 1, 6, 0, 1);
        Told back = Told.city("g1,6;c2,0,5;f2,2,2,0,0;f2,1,1,0,0;");
        back.ride(0, 0, 2 + 3 + 1 + 3, 9, 0, 1).ride(0, 1, 1, 1, 0, 0);
    }

    private static void briskFromWhere() {
        // 0 is 3 FAR from 13 and 18, 4 FAR from 14 and 24
        Told t = Told.city("g6,6;c2,35,0;f2,13,13,0,0;f2,14,14,0,0;f2,18,18,0,0;f2,24,24,0,0;f2,0,35,0,0;f2,24,0,0,0;");
        t.ride(0, 0, 7 + 3 + 1 + 3, 14, 0, 1).ride(0, 1, 6, 6, 0, 0).ride(0, 2, 7 + 3 + 1 + 3, 14, 0, 1).ride(0, 3, 6, 6, 0, 0);
        // B and the CAB are FAR, A is not; A is FAR, B is not
        t.ride(0, 4, 10 + 1 + 10, 21, 0, 1).ride(0, 5, 6 + 4, 10, 0, 0);
        // the CAB is not FAR, A is
        Told.city("g6,6;c2,1,0;f2,24,24,0,0;").ride(0, 0, 5, 5, 0, 0);
    }

    private static void noOtherLeavesOut() {
        Told t = Told.city("g6,6;c0,35,0;c1,35,0;c2,35,0;f2,35,35,0,0;");
        t.ride(0, 0, 10 + 1 + 10, 21, 0, 1).ride(1, 0, 10 + 3 + 10, 23, 0, 1).ride(2, 0, 0, 0, 0, 0);
    }

    private static void putDown() {
        Told t = Told.city("g1,6;c0,3,3;f0,3,3,7,0;f2,5,0,7,0;").due(0, "take(0, 0)").cab(0, 3, 7, NONE).fare(0, 1, 0, 0);
        t.due(7, "take(0, 1)").cab(0, 0, 14, NONE).fare(1, 1, 7, 0).due(0, "count(4)");
    }

    private static void plainZero() {
        Told t = Told.city("g1,1;c0,0,0;f0,0,0,0,0;f0,0,0,5,0;");
        t.ride(0, 0, 0, 0, 0, 0).ride(0, 1, 5, 0, 0, 0).then("pass(1)").ride(0, 0, 1, 1, 1, 0).ride(0, 1, 5, 0, 0, 0);
        t.then("pass(4)").ride(0, 1, 5, 0, 0, 0).then("pass(1)").ride(0, 1, 6, 1, 1, 0);
        t.due(6, "take(0, 0)").fare(0, 1, 6, 1).cab(0, 0, 6, 0);
        Told.city("g1,1;c0,0,0;f0,0,0,0,0;").due(0, "take(0, 0)").fare(0, 1, 0, 0).cab(0, 0, 0, NONE);
    }

    private static void plainSixty() {
        Told t = Told.city("g1,1;c0,0,0;f0,0,0,0,60;f0,0,0,0,59;").then("pass(60)");
        t.ride(0, 0, 60, 60, 0, 0).ride(0, 1, 60, 60, 1, 0).then("pass(1)").ride(0, 0, 61, 61, 1, 0);
        t.due(61, "take(0, 0)").fare(0, 1, 61, 1).due(60, "fare(0, 4)").due(1, "count(6)");
        t.then("undo()", "undo()").due(60, "take(0, 0)").fare(0, 1, 60, 0).due(0, "count(6)");
    }

    private static void girl() {
        Told t = Told.city("g1,1;c0,0,0;f1,0,0,0,60;f1,0,0,99,0;").ride(0, 0, 0, 0, 1, 0).ride(0, 1, 99, 0, 1, 0);
        t.due(0, "take(0, 0)").fare(0, 1, 0, 1).cab(0, 0, 0, 0).due(1, "count(6)");
    }

    private static void never() {
        Told t = Told.city("g1,1;c0,0,0;f2,0,0,0,0;f3,0,0,0,0;");
        for (int i = 0; i < 7; i++) t.then("pass(60)");
        t.ride(0, 0, 420, 420, 0, 0).ride(0, 1, 420, 420, 0, 0).due(420, "take(0, 0)", "take(0, 1)");
        t.fare(0, 1, 420, 0).fare(1, 1, 420, 0).cab(0, 0, 420, NONE).due(0, "count(6)").due(2, "count(5)");
    }

    private static void whereWept() {
        Told t = Told.city("g1,6;c0,0,0;f0,0,5,0,5;f0,5,1,0,8;f2,1,4,0,0;f1,4,3,0,60;f0,3,3,0,60;");
        t.due(5, "take(0, 0)").cab(0, 5, 5, NONE);
        t.due(9, "take(0, 1)").cab(0, 1, 9, 1);
        t.due(9 + 1 + 3, "take(0, 2)").cab(0, 4, 13, 1);
        t.due(13 + 3 + 1 + 2, "take(0, 3)").cab(0, 3, 19, 3);
        t.due(20, "take(0, 4)").cab(0, 3, 20, 3).due(2, "count(6)");
    }

    private static void brewer() {
        Told t = Told.city("g1,6;c2,1,5;c2,2,5;c0,3,3;f3,1,1,0,0;f3,2,2,0,0;f3,3,3,0,0;");
        t.due(0, "take(0, 0)").cab(0, 1, 0, 5);
        t.due(3 + 1 + 3, "take(1, 1)").cab(1, 2, 7, NONE);
        t.due(0, "take(2, 2)").cab(2, 3, 0, NONE).due(0, "count(6)");
        // 0 FAR from A, from B, from both: driven by all the same
        Told u = Told.city("g1,6;c0,0,2;c0,0,4;c1,0,5;f3,2,3,0,0;f3,1,4,0,0;f3,5,5,0,0;");
        u.due(2 + 1 + 1, "take(0, 0)").cab(0, 3, 4, NONE).due(1 + 3 + 1, "take(1, 1)").cab(1, 4, 5, NONE);
        u.due(5 + 3, "take(2, 2)").cab(2, 5, 8, NONE);
        // who is no BREWER leaves it where it is
        Told.city("g1,6;c0,0,2;f2,0,0,0,0;").due(2 + 1 + 2, "take(0, 0)").cab(0, 0, 5, 2);
    }

    private static void weptTold() {
        Told t = Told.city("g6,6;c0,35,0;c0,0,35;c0,0,0;f1,0,0,0,0;f1,0,35,0,0;f3,0,0,0,0;").row("cab(0, #)", 0, 35, 0, 0, BAD);
        t.row("cab(1, #)", 0, 0, 0, 35, BAD).row("cab(2, #)", 0, 0, 0, NONE, BAD).then("take(2, 0)").due(0, "cab(2, 3)");
        t.then("take(2, 1)").due(35, "cab(2, 3)").then("take(2, 2)").due(NONE, "cab(2, 3)");
        t.then("undo()").due(35, "cab(2, 3)").then("undo()").due(0, "cab(2, 3)").then("undo()").due(NONE, "cab(2, 3)");
    }

    private static void fareTold() {
        Told t = Told.city("g1,1;c0,0,0;f0,0,0,0,0;f0,0,0,0,0;f1,0,0,60,9;").fare(0, 0, NONE, 0).then("take(0, 0)")
            .fare(0, 1, 0, 0);
        t.then("pass(1)").fare(1, 0, NONE, 0).then("take(0, 1)").fare(1, 1, 1, 1).fare(0, 1, 0, 0);
        // how LATE he was and that he WEPT do not change by what comes behind
        t.then("take(0, 2)", "pass(60)").fare(2, 1, 1, 1).fare(1, 1, 1, 1).fare(0, 1, 0, 0);
        t.then("undo()", "undo()", "undo()").fare(2, 0, NONE, 0).fare(1, 0, NONE, 0).fare(0, 1, 0, 0);
    }

    private static void taken() {
        Told t = Told.city("g1,6;c0,0,0;c0,5,5;f2,0,0,0,0;f2,0,0,0,0;").due(0, "take(0, 0)");
        t.due(NO, "take(0, 0)", "take(1, 0)").then("pass(60)").due(NO, "take(1, 0)").due(1, "count(5)").due(2, "count(8)");
        t.due(BAD, "take(2, 0)", "take(0, 2)", "take(-1, 0)", "take(0, -1)").cab(1, 5, 0, NONE);
        t.then("undo()", "undo()").due(5, "take(1, 0)").due(NO, "take(0, 0)", "take(1, 0)").due(0, "take(0, 1)");
        t.due(NO, "take(0, 0)", "take(0, 1)").due(2, "count(5)", "count(8)");
    }

    private static void sent() {
        Told t = Told.city("g1,6;c0,0,3;f2,0,0,0,0;").due(5, "send(0, 5)").cab(0, 5, 5, 3);
        t.due(4, "pass(4)").due(6, "send(0, 4)").due(6, "pass(2)").due(7, "send(0, 3)").due(8, "pass(2)").due(9, "send(0, 2)");
        t.cab(0, 2, 9, 3).due(7, "count(8)").due(8, "count(4)");
        Told.city("g6,6;c0,0,0;f2,0,0,0,0;").due(10, "send(0, 35)").due(20, "send(0, 0)").due(21, "send(0, 6)")
            .due(22, "send(0, 7)");
    }

    private static void sentNowhere() {
        Told t = Told.city("g1,6;c0,2,4;f2,0,0,0,0;").due(0, "send(0, 2)").cab(0, 2, 0, 4).due(1, "count(8)").then("pass(9)");
        t.due(9, "send(0, 2)").cab(0, 2, 9, 4).due(3, "count(8)").due(11, "send(0, 4)").cab(0, 4, 11, 4);
        t.due(11 + 4, "send(0, 0)").cab(0, 0, 15, 4).due(4, "undo()").cab(0, 4, 11, 4);
        // SENT to where one WEPT it still goes there
        t.ride(0, 0, 11 + 4 + 4 + 1 + 4, 24, 0, 1);
    }

    private static void steps() {
        Told t = Told.city("g1,1;c0,0,0;f2,0,0,0,0;").due(BAD, "pass(0)", "pass(61)", "pass(-1)")
            .due(BAD, "pass(" + Told.MAX + ")");
        t.due(BAD, "pass(" + Told.MIN + ")").due(0, "count(4)", "count(8)").due(1, "pass(1)").due(61, "pass(60)");
        t.due(BAD, "pass(0)", "pass(61)").due(61, "count(4)").due(2, "count(8)").cab(0, 0, 0, NONE);
        for (int n = 1; n <= 60; n++) Told.city("g1,1;c0,0,0;f2,0,0,0,0;").due(n, "pass(" + n + ")", "count(4)");
    }

    private static void stepsAreOne() {
        Told t = new Told().due(60, "pass(60)").due(1, "count(8)").due(0, "undo()").due(0, "count(4)").due(NO, "undo()");
        t.due(1, "pass(1)").due(2, "pass(1)").due(2, "count(8)").due(1, "undo()").due(1, "count(4)").due(0, "undo()")
            .due(0, "count(4)");
    }

    private static void undoneSteps() {
        for (int n = 0; n <= 12; n++) {
            Told t = Told.city("g1,1;c0,0,0;f2,0,0,0,0;");
            for (int i = 1; i <= n; i++) t.then("pass(1)").due(Math.min(i, 8), "count(8)");
            for (int left = Math.min(n, 8) - 1; left >= 0; left--) t.due(left, "undo()", "count(8)");
            t.due(NO, "undo()", "undo()").due(Math.max(0, n - 8), "count(4)").due(0, "count(8)");
            t.then("pass(60)").due(1, "count(8)").due(0, "undo()").due(Math.max(0, n - 8), "count(4)").due(NO, "undo()");
        }
    }

    private static void undoneSent() {
        for (int n = 0; n <= 12; n++) {
            Told t = Told.city("g1,6;c0,0,0;f2,0,0,0,0;");
            for (int i = 1; i <= n; i++) t.due(i, "send(0, " + i % 2 + ")").due(Math.min(i, 8), "count(8)");
            for (int i = n - 1; i >= Math.max(0, n - 8); i--) {
                t.due(Math.min(n, 8) - n + i, "undo()").cab(0, i % 2, i, NONE);
            }
            t.due(NO, "undo()").due(0, "count(8)");
        }
    }

    private static void undoneTaken() {
        Told t = Told.city("g1,1;c0,0,0;" + "f1,0,0,0,0;".repeat(7));
        for (int f = 0; f < 7; f++) t.due(f, "take(0, " + f + ")").due(f + 1, "count(5)", "count(6)", "count(8)");
        t.then("pass(1)").due(8, "count(8)").then("send(0, 0)").due(8, "count(8)");
        t.due(7, "undo()").due(6, "undo()").due(0, "count(4)");
        for (int f = 6; f >= 1; f--) t.due(f - 1, "undo()").fare(f, 0, NONE, 0).fare(f - 1, 1, f - 1, 1)
            .due(f, "count(5)", "count(6)");
        t.due(NO, "undo()").fare(0, 1, 0, 1).cab(0, 0, 0, 0).due(1, "take(0, 6)").due(NO, "take(0, 0)").due(0, "undo()");
    }

    private static void undoneAgain() {
        Told t = Told.city("g1,1;c0,0,0;f2,0,0,0,0;");
        int[] nows = new int[200];
        int told = 0;
        int can = 0;
        for (int turn = 0; turn < 20; turn++) {
            for (int i = 0; i <= turn % 6 + 1; i++) {
                nows[told + 1] = nows[told] + i + 1;
                told++;
                can = Math.min(8, can + 1);
                t.due(nows[told], "pass(" + (i + 1) + ")");
            }
            for (int i = 0; i < turn % 4; i++) {
                told--;
                can--;
                t.due(can, "undo()").due(nows[told], "count(4)");
            }
        }
        for (can--; can >= 0; can--) t.due(can, "undo()").due(nows[--told], "count(4)");
        t.due(NO, "undo()").due(nows[told], "count(4)");
    }

    private static void undoneOnly() {
        Told t = Told.city("g1,6;c0,0,0;c0,5,5;f2,0,0,0,0;f3,1,1,0,0;").then("take(0, 0)").due(1, "count(8)");
        t.then("take(0, 0)", "take(2, 1)", "take(0, 2)", "send(2, 0)", "send(0, 6)", "pass(0)", "pass(61)", "back()");
        t.due(1, "count(8)").then("ride(0, 1, 0)", "soonest(1)", "order(0)", "waiting(0, 0)", "round(0)", "mends(1)");
        t.then("rivals(0, 1, 4, 0)", "wept(0, 0)", "kinds(0)", "tears(1, 5, 0)", "year(1, 40, 0)", "far(0, 1)", "fare(0, 0)");
        t.due(1, "count(8)").then("see(0, 0, 0)", "forget()", "see(0, 0, 1)", "keep()", "write(32)", "fault()", "wipe()");
        t.due(1, "count(8)").due(NO, "lay()").due(1, "count(8)").due(0, "undo()").due(NO, "undo()").fare(0, 0, NONE, 0);
        t.due(1, "count(7)", "count(9)").due(0, "count(10)");
    }
}
