/** Terms, 4, and the words of BAD, NO, NONE, FULL: every bound that is told there, on both sides of it. */
public final class SeenYearEdgesTest {
    private static final int BAD = Told.BAD, NO = Told.NO, FULL = Told.FULL, NONE = Told.NONE;
    private static final String ONE = "g1,1;c0,0,0;f2,0,0,0,0;";

    public static void main(String[] args) {
        Check.test("'SEEN (6 at most)': the 6th and the 7th", SeenYearEdgesTest::seenSix);
        Check.test("'at step s (0 to 400)': both ends, as it is", SeenYearEdgesTest::seenSteps);
        Check.test("SEEN, 'a FARE (TAKEN or not)'", SeenYearEdgesTest::seenTaken);
        Check.test("SEEN, '(now: as it stands when that is asked)'", SeenYearEdgesTest::seenNow);
        Check.test("'Nothing is SEEN: how many were': from 0, 1, 6", SeenYearEdgesTest::forget);
        Check.test("WEPT, 'how many there are': all, one, none", SeenYearEdgesTest::weptHowMany);
        Check.test("WEPT, 'the lowest PLACE (99: nowhere alone); none'", SeenYearEdgesTest::weptLowest);
        Check.test("WEPT, KINDS, 'all that is SEEN of it': of none, of the other one, of two at a time",
            SeenYearEdgesTest::seenOfIt);
        Check.test("KINDS, 'those (bits)': each alone, two, all, none", SeenYearEdgesTest::kinds);
        Check.test("TEARS, 'x (0 to 10) of ten': never, always, between", SeenYearEdgesTest::tearsTenths);
        Check.test("TEARS, 'n (0 to 7) or more': up to how many are LATE, and one more", SeenYearEdgesTest::tearsOrMore);
        Check.test("TEARS, 'LATE by more than they BEAR': just borne and not", SeenYearEdgesTest::tearsBorne);
        Check.test("TEARS, 'in lowest terms'", SeenYearEdgesTest::tearsLowest);
        Check.test("TEARS, 'all of REST': none of them, 7 of them", SeenYearEdgesTest::tearsOfRest);
        Check.test("TEARS, 'by the CAB that is SOONEST for each by then': the first, the last, of several the lowest",
            SeenYearEdgesTest::tearsSoonest);
        Check.test("TEARS, 'whoever he is': a GIRL need not, a STOIC may", SeenYearEdgesTest::tearsWhoever);
        Check.test("TEARS, 'a BREWER who WEEPS: .. nowhere then, if he was driven by that PLACE, else in B'",
            SeenYearEdgesTest::tearsBrewer);
        Check.test("'A YEAR by z (0 to 9999)': both ends", SeenYearEdgesTest::yearDraws);
        Check.test("YEAR, 'of n (1 to 40) RIDES from now on': both ends", SeenYearEdgesTest::yearRides);
        Check.test("YEAR, 'as many as there are (TAKEN or not)'", SeenYearEdgesTest::yearTaken);
        Check.test("YEAR, 'how many WEEP in it': one who WEEPS twice", SeenYearEdgesTest::yearTwice);
        Check.test("KEPT, '2 at most': the 2nd and the 3rd", SeenYearEdgesTest::keptTwo);
        Check.test("'As KEPT last (it is KEPT no more then)': from 2, 1, none", SeenYearEdgesTest::back);
        Check.test("KEPT, 'all as it stands, but what is SEEN and THE TEXT (these stay by back()'",
            SeenYearEdgesTest::backStays);
        Check.test("'behind which nothing can be UNDONE'", SeenYearEdgesTest::backUndone);
        Check.test("'How many: 0 PLACES .. 10 letters of THE TEXT': the least and the most of each", SeenYearEdgesTest::counts);
        Check.test("'(PLACES, CABS, FARES: such as there are)'", SeenYearEdgesTest::suchAsThereAre);
        Check.test("'Of several the first in this order': BAD ahead of NO", SeenYearEdgesTest::badAheadOfNo);
        Check.test("'Of several the first in this order': BAD ahead of NONE", SeenYearEdgesTest::badAheadOfNone);
        Check.test("'Of several the first in this order': BAD ahead of FULL", SeenYearEdgesTest::badAheadOfFull);
        Check.test("'used for at most 512 calls': the 512th", SeenYearEdgesTest::lastCall);
        Check.end();
    }

    private static void seenSix() {
        Told t = Told.city(ONE);
        for (int i = 1; i <= 6; i++) t.due(i, "see(0, 0, 0)", "count(7)");
        t.due(FULL, "see(0, 0, 0)", "see(0, 0, 1)").due(6, "count(7)").row("wept(0, #)", 1, 99);
        t.due(6, "forget()").due(1, "see(0, 0, 1)").row("wept(0, #)", 1, 0);
        // the 6th counts, a 7th does not
        Told u = Told.city(ONE).then("see(0, 0, 0)", "see(0, 0, 0)", "see(0, 0, 0)", "see(0, 0, 0)", "see(0, 0, 0)");
        u.row("wept(0, #)", 1, 99).due(6, "see(0, 0, 1)").row("wept(0, #)", 0, NONE);
    }

    private static void seenSteps() {
        Told t = Told.city(ONE).due(1, "see(0, 0, 0)").row("wept(0, #)", 1, 99).due(1, "forget()");
        t.due(BAD, "see(0, 0, -1)", "see(0, 0, 401)", "see(0, 0, " + Told.MAX + ")", "see(0, 0, " + Told.MIN + ")");
        t.due(1, "see(0, 0, 400)").row("wept(0, #)", 0, NONE).due(0, "kinds(0)");
        for (int i = 0; i < 6; i++) t.then("pass(60)");
        t.due(399, "pass(39)").row("wept(0, #)", 1, 0).due(0, "kinds(0)");
        t.due(400, "pass(1)").row("wept(0, #)", 1, 99).due(7, "kinds(0)");
        t.due(401, "pass(1)").row("wept(0, #)", 0, NONE).due(0, "kinds(0)").due(BAD, "see(0, 0, 401)").due(1, "count(7)");
    }

    private static void seenTaken() {
        Told t = Told.city("g1,6;c0,0,0;c0,3,3;f2,2,2,0,0;").due(1, "see(0, 0, 2)").row("wept(0, #)", 1, 99);
        t.due(1, "take(1, 0)").row("wept(0, #)", 1, 99).due(7, "kinds(0)").due(2, "see(0, 0, 2)").row("wept(0, #)", 1, 99);
        t.then("undo()").due(2, "take(0, 0)", "count(7)").due(3, "see(0, 0, 2)").row("wept(0, #)", 1, 99).due(7, "kinds(0)");
    }

    private static void seenNow() {
        Told t = Told.city("g1,6;c0,0,3;f2,1,4,0,0;").due(1, "see(0, 0, 6)").row("wept(0, #)", 0, NONE).due(0, "kinds(0)");
        t.then("pass(1)").row("wept(0, #)", 4, 1).due(1 + 4, "kinds(0)").then("pass(1)").row("wept(0, #)", 1, 99)
            .due(0, "kinds(0)");
        t.then("undo()").row("wept(0, #)", 4, 1).then("undo()", "send(0, 1)", "send(0, 1)", "pass(2)").row("wept(0, #)", 4, 1);
        // KINDS go by where one WEPT in it now
        Told u = Told.city("g1,6;c1,0,3;f3,1,1,0,0;f2,2,2,50,0;").due(1, "see(0, 1, 55)");
        u.due(1 + 4, "kinds(0)").then("take(0, 0)").due(0, "kinds(0)").due(2, "see(0, 1, 51)").due(0, "kinds(0)");
        u.due(2, "forget()").due(1, "see(0, 1, 51)").due(7, "kinds(0)");
    }

    private static void forget() {
        Told t = Told.city(ONE).due(0, "forget()", "count(7)").due(1, "see(0, 0, 9)").due(0, "kinds(0)").due(1, "forget()");
        t.due(7, "kinds(0)").due(2, "wept(0, 0)").due(0, "forget()", "count(7)");
        for (int i = 1; i <= 6; i++) t.due(i, "see(0, 0, 9)");
        t.due(6, "forget()").due(7, "kinds(0)").due(0, "forget()").due(1, "see(0, 0, 9)");
    }

    private static void weptHowMany() {
        Told.city("g6,6;c0,0,0;f2,0,0,0,0;").row("wept(0, #)", 37, 0, BAD);
        Told.city(ONE).row("wept(0, #)", 2, 0, BAD).then("see(0, 0, 0)").row("wept(0, #)", 1, 99);
        Told.city(ONE).then("see(0, 0, 1)").row("wept(0, #)", 1, 0);
        Told.city(ONE).then("see(0, 0, 2)").row("wept(0, #)", 0, NONE, BAD);
        // a BRISK one may have been WEPT in wherever it is more than 3 FAR, and nowhere
        Told.city("g1,6;c2,0,0;f2,0,0,0,0;").then("see(0, 0, 0)").row("wept(0, #)", 3, 4);
    }

    private static void weptLowest() {
        Told.city("g1,6;c0,0,0;f2,1,1,0,0;").then("see(0, 0, 4)").row("wept(0, #)", 2, 0);
        Told.city("g1,6;c0,0,0;f2,1,1,0,0;").then("see(0, 0, 10)").row("wept(0, #)", 1, 5);
        Told.city("g1,6;c0,0,0;f2,1,1,0,0;").then("see(0, 0, 1)").row("wept(0, #)", 1, 99);
        Told.city("g1,6;c0,0,0;f2,1,1,0,0;").then("see(0, 0, 3)").row("wept(0, #)", 0, NONE);
        Told.city("g6,6;c2,0,0;f2,35,35,0,0;").then("see(0, 0, 10)").row("wept(0, #)", 27, 0);
        Told.city("g6,6;c0,35,35;f2,35,35,0,0;").then("see(0, 0, 1)").row("wept(0, #)", 1, 35);
        Told.city("g6,6;c0,35,35;f2,35,35,0,0;").then("see(0, 0, 21)").row("wept(0, #)", 1, 0);
    }

    private static void seenOfIt() {
        Told t = Told.city("g1,6;c0,0,3;c2,0,5;f2,1,4,0,0;f2,5,5,0,0;")
            .due(7, "wept(0, 0)", "wept(1, 0)", "kinds(0)", "kinds(1)");
        t.then("see(1, 0, 9)").due(7, "wept(0, 0)", "kinds(0)").due(2, "kinds(1)").row("wept(1, #)", 0, NONE);
        t.then("see(0, 0, 5)").row("wept(0, #)", 4, 1).due(5, "kinds(0)").due(2, "kinds(1)");
        t.then("see(0, 1, 8)").row("wept(0, #)", 1, 4).due(0, "kinds(0)").due(2, "kinds(1)");
        t.then("see(0, 1, 9)").row("wept(0, #)", 0, NONE).due(0, "kinds(0)").due(BAD, "kinds(2)", "wept(2, 0)");
    }

    private static void kinds() {
        String far = "g1,6;c0,0,5;c1,0,5;c2,0,5;f2,1,1,0,0;", near = "g1,6;c0,0,5;c1,0,5;c2,0,5;f2,2,2,0,0;";
        for (int c = 0; c < 3; c++) {
            String see = "see(" + c + ", 0, ", kinds = "kinds(" + c + ")";
            Told.city(far).due(7, kinds).then(see + "10)").due(1, kinds);
            Told.city(far).then(see + "12)").due(2, kinds);
            Told.city(far).then(see + "1)").due(4, kinds);
            Told.city(far).then(see + "11)").due(0, kinds);
            Told.city(near).then(see + "9)").due(1 + 4, kinds);
            Told.city(near).then(see + "11)").due(2, kinds);
            Told.city(near).then(see + "2)").due(0, kinds);
            Told.city("g1,6;c" + c + ",0,0;f2,2,2,0,0;").then("see(0, 0, 2)").due(7, "kinds(0)").then("see(0, 0, 3)")
                .due(0, "kinds(0)");
        }
    }

    private static void tearsTenths() {
        Told t = Told.city("g1,1;c0,0,0;f0,0,0,0,0;f0,0,0,0,0;").tears(1, 0, 0, 1).tears(1, 10, 1, 1).tears(1, 1, 1, 10)
            .tears(1, 9, 9, 10);
        t.due(BAD, "tears(1, -1, 0)", "tears(1, 11, 0)", "tears(1, " + Told.MAX + ", 1)", "tears(1, " + Told.MIN + ", 1)");
        t.due(BAD, "tears(1, 5, 2)", "tears(1, 5, -1)", "tears(-1, 5, 0)", "tears(8, 5, 0)");
    }

    private static void tearsOrMore() {
        // one WEEPS: all behind him are LATE
        Told t = Told.city("g1,1;c0,0,0;" + "f2,0,0,0,0;".repeat(4));
        t.tears(0, 5, 1, 1).tears(1, 5, 7, 8).tears(2, 5, 3, 4).tears(3, 5, 1, 2).tears(4, 5, 0, 1).tears(7, 5, 0, 1);
        t.tears(3, 10, 1, 1).tears(4, 10, 0, 1).tears(0, 0, 1, 1).tears(1, 0, 0, 1).then("pass(1)");
        t.tears(4, 5, 1, 1).tears(5, 5, 0, 1).tears(4, 0, 1, 1).due(BAD, "tears(8, 5, 1)", "tears(-1, 5, 1)");
    }

    private static void tearsBorne() {
        Told t = Told.city("g1,1;c0,0,0;f0,0,0,0,5;f0,0,0,0,6;").then("pass(5)").tears(1, 0, 0, 1).tears(1, 10, 0, 1);
        t.then("pass(1)").tears(1, 0, 1, 1).tears(2, 0, 0, 1).tears(2, 3, 3, 10).then("pass(1)").tears(2, 0, 1, 1);
        Told.city("g1,1;c0,0,0;f0,0,0,0,60;f0,0,0,0,0;").then("pass(60)").tears(1, 0, 1, 1).tears(2, 10, 0, 1)
            .then("pass(1)").tears(2, 0, 1, 1);
    }

    private static void tearsLowest() {
        Told t = Told.city("g1,1;c0,0,0;f2,0,0,0,0;f2,0,0,0,0;");
        int[] above = {0, 1, 1, 3, 2, 1, 3, 7, 4, 9, 1}, below = {1, 10, 5, 10, 5, 2, 5, 10, 5, 10, 1};
        for (int x = 0; x <= 10; x++) t.tears(1, x, above[x], below[x]).tears(0, x, 1, 1).tears(2, x, 0, 1);
    }

    private static void tearsOfRest() {
        Told t = Told.city(ONE).then("pass(1)").tears(1, 5, 1, 1).then("take(0, 0)");
        for (int x = 0; x <= 10; x++) t.tears(0, x, 1, 1).tears(1, x, 0, 1).tears(7, x, 0, 1);
        Told seven = Told.city("g1,1;c0,0,0;" + "f2,0,0,0,0;".repeat(7)).tears(6, 1, 1, 10).tears(1, 1, 468559, 1000000);
        seven.tears(7, 10, 0, 1).tears(1, 9, 999999, 1000000).then("pass(1)").tears(7, 0, 1, 1).tears(7, 3, 1, 1);
        // if the 6th is the first who WEEPS, the 7th is LATE by just what he BEARS: one of the first 5 has to
        Told.city("g1,1;c0,0,0;" + "f2,0,0,0,0;".repeat(6) + "f2,0,0,0,1;").tears(1, 3, 100000 - 16807, 100000);
        seven.then("take(0, 0)", "take(0, 1)", "take(0, 2)", "take(0, 3)", "take(0, 4)").tears(2, 1, 1, 1).tears(3, 1, 0, 1);
    }

    private static void tearsSoonest() {
        String near = "c0,0,0;", far = "c0,5,5;", two = "f0,0,0,0,0;f0,0,0,0,0;";
        Told.city("g1,6;" + near + far + two).tears(1, 0, 0, 1).tears(1, 3, 3, 10).tears(2, 3, 0, 1);
        Told.city("g1,6;" + far + near + two).tears(1, 0, 0, 1).tears(1, 3, 3, 10).tears(2, 3, 0, 1);
        Told.city("g1,6;" + far + far + near + two).tears(1, 0, 0, 1).tears(1, 3, 3, 10);
        // one WEPT in the first CAB: another one is there as soon as he would be, or sooner
        Told.city("g1,6;c0,0,0;c0,1,1;" + two + "f0,0,0,0,0;").tears(1, 5, 3, 4).tears(2, 5, 1, 2).tears(3, 5, 0, 1);
        Told.city("g1,6;c0,0,0;c0,1,1;" + two + "f0,0,0,0,1;").tears(1, 5, 1, 2).tears(2, 5, 0, 1);
        Told.city("g1,6;c0,0,0;c0,0,0;" + two).tears(1, 10, 0, 1);
        Told.city("g1,6;c0,0,0;c0,0,0;" + two + "f0,0,0,0,0;").tears(1, 10, 1, 1).tears(1, 5, 1, 4);
    }

    private static void tearsWhoever() {
        for (int kind = 0; kind < 4; kind++) {
            Told t = Told.city("g1,1;c0,0,0;f" + kind + ",0,0,0,60;f2,0,0,0,0;").tears(1, 3, 3, 10).tears(1, 0, 0, 1)
                .tears(1, 10, 1, 1);
            t.due(0, "count(5)", "count(6)");
            // who WEEPS goes by x alone, LATE or not; who is LATE is counted, WEEPING or not
            Told.city("g1,1;c0,0,0;f2,0,0,0,0;f" + kind + ",0,0,0,0;").tears(1, 3, 3, 10).tears(1, 0, 0, 1);
        }
    }

    private static void tearsBrewer() {
        // not driven by: in B, if he WEEPS; where it was, if he does not
        Told.city("g1,1;c0,0,0;f3,0,0,0,0;f0,0,0,0,0;").tears(1, 3, 3, 10);
        Told.city("g1,6;c2,0,5;f3,0,0,0,0;f0,3,3,0,8;").tears(1, 0, 0, 1).tears(1, 3, 3, 10);
        Told.city("g1,6;c2,0,5;f3,0,0,0,0;f0,3,3,0,7;").tears(1, 0, 1, 1).tears(1, 3, 1, 1);
        Told.city("g1,6;c2,0,5;f3,0,0,0,0;f0,2,2,0,7;").tears(1, 0, 1, 1).tears(1, 10, 0, 1).tears(1, 3, 7, 10);
        // driven by: nowhere, WEEPING or not
        Told.city("g1,6;c0,0,1;f3,0,0,0,3;f0,0,0,3,0;").tears(1, 0, 0, 1).tears(1, 10, 0, 1).tears(1, 5, 0, 1);
        Told.city("g1,6;c0,0,1;f2,0,0,0,3;f0,0,0,3,0;").tears(1, 0, 1, 1).tears(1, 10, 1, 1);
    }

    /** The DRAW, told as the document tells it. */
    private static int draw(int z, int k) {
        long x = 7919L * z + 6151L * k + 1;
        return (int) ((x % 65521) * (x % 65521) % 65521);
    }

    /** How LATE n RIDES are together where no way is any: by now alone. */
    private static int lateOfOne(int z, int n, int now) {
        int late = 0;
        for (int k = 0; k < n; k++) {
            late += now;
            now += draw(z, k) / 64 % 8;
        }
        return late;
    }

    private static void yearDraws() {
        Told t = Told.city(ONE);
        for (int z : new int[] {0, 1, 9998, 9999}) {
            t.row("year(" + z + ", 40, #)", 0, lateOfOne(z, 40, 0), BAD);
        }
        Check.due("the DRAWS of 0 and 9999 are not alike", lateOfOne(0, 40, 0) == lateOfOne(9999, 40, 0) ? 1 : 0, 0);
        t.due(BAD, "year(-1, 1, 0)", "year(10000, 1, 0)", "year(" + Told.MAX + ", 1, 1)", "year(" + Told.MIN + ", 1, 1)");
        // of z alone the first DRAW: 51303 by 4 is 12825, of 7 the 1st; modulo 3 the CAB 0
        String seven = "f2,0,0,0,0;".repeat(7);
        Told.city("g1,3;c0,1,1;c0,2,2;c0,2,2;" + seven).row("year(9999, 1, #)", 0, 1).row("year(0, 1, #)", 0, 2);
        Told.city("g1,1;c0,0,0;" + "f2,0,0,0,0;" + "f1,0,0,0,0;" + "f2,0,0,0,0;".repeat(5)).due(1, "year(9999, 1, 0)")
            .due(0, "year(0, 1, 0)");
    }

    private static void yearRides() {
        Told t = Told.city(ONE);
        for (int n : new int[] {1, 2, 39, 40}) t.row("year(123, " + n + ", #)", 0, lateOfOne(123, n, 0), BAD);
        t.due(BAD, "year(1, 0, 0)", "year(1, 41, 0)", "year(1, -1, 0)", "year(1, " + Told.MAX + ", 0)",
            "year(1, " + Told.MIN + ", 1)");
        t.then("pass(60)");
        for (int n : new int[] {1, 2, 39, 40}) t.row("year(123, " + n + ", #)", 0, lateOfOne(123, n, 60), BAD);
        // every RIDE of a GIRL; from the second on it goes by where the last one WEPT
        Told girl = Told.city("g1,1;c0,0,0;f1,0,0,99,60;");
        for (int n : new int[] {1, 2, 39, 40}) girl.due(n, "year(0, " + n + ", 0)");
        girl.row("year(0, 2, #)", 2, 1).row("year(0, 1, #)", 1, 0);
    }

    private static void yearTaken() {
        Told t = Told.city("g1,1;c0,0,0;f1,0,0,0,0;f1,0,0,0,0;").due(40, "year(7, 40, 0)").then("take(0, 0)")
            .due(40, "year(7, 40, 0)");
        t.then("take(0, 1)").due(40, "year(7, 40, 0)").fare(0, 1, 0, 1).fare(1, 1, 1, 1).cab(0, 0, 1, 0).due(2, "count(6)");
        // which FARE goes by all of them: TAKEN ones are not left out
        Told u = Told.city("g1,1;c0,0,0;f1,0,0,0,0;f2,0,0,0,0;").due(1, "year(0, 1, 0)").then("take(0, 1)")
            .due(1, "year(0, 1, 0)");
        u.then("undo()", "take(0, 0)").due(1, "year(0, 1, 0)");
    }

    private static void yearTwice() {
        Told.city("g1,1;c0,0,0;f1,0,0,0,0;").row("year(0, 1, #)", 1, 0).due(2, "year(0, 2, 0)").due(3, "year(0, 3, 0)");
        Told.city("g1,1;c0,0,0;f0,0,0,0,60;").due(0, "year(0, 1, 0)");
        Told late = Told.city("g1,1;c0,0,0;f0,0,0,0,0;").due(0, "year(0, 1, 0)").then("pass(1)").due(1, "year(0, 1, 0)")
            .due(9, "year(0, 9, 0)");
        late.due(0, "count(6)").due(1, "count(4)");
    }

    private static void keptTwo() {
        Told t = Told.city(ONE).due(0, "count(9)").due(1, "keep()", "count(9)").then("pass(1)").due(2, "keep()", "count(9)");
        t.then("pass(1)").due(FULL, "keep()", "keep()").due(2, "count(9)", "count(4)").due(1, "back()")
            .due(1, "count(4)", "count(9)");
        t.then("pass(5)").due(2, "keep()").due(FULL, "keep()").due(1, "back()").due(6, "count(4)").due(0, "back()")
            .due(0, "count(4)");
        t.due(NO, "back()").due(1, "keep()").due(0, "back()").due(NO, "back()");
    }

    private static void back() {
        Told t = Told.city(ONE).due(NO, "back()").then("pass(1)").due(NO, "back()").due(1, "count(4)", "count(8)");
        t.due(1, "keep()").then("pass(2)").due(2, "keep()").then("pass(3)").due(1, "back()").due(3, "count(4)");
        t.due(0, "back()").due(1, "count(4)").due(NO, "back()").due(1, "count(4)");
        // how it stands at first can be KEPT
        Told u = Told.city(ONE).due(1, "keep()").then("take(0, 0)", "pass(9)").due(0, "back()").fare(0, 0, NONE, 0)
            .due(0, "count(4)");
        u.cab(0, 0, 0, NONE).due(NO, "back()");
        // KEPT last, though KEPT twice alike
        Told.city(ONE).due(1, "keep()").due(2, "keep()").due(1, "back()").due(0, "back()").due(NO, "back()");
    }

    private static void backStays() {
        Told t = Told.city(ONE).then("see(0, 0, 1)").due(1, "keep()").due(2, "see(0, 0, 0)").more("ab").then("pass(1)");
        t.due(0, "back()").due(2, "count(7)").due(25, "count(10)").row("wept(0, #)", 0, NONE).due(23, "fault()")
            .due(0, "count(4)");
        t.due(1, "keep()").due(2, "forget()").due(25, "wipe()").due(0, "back()", "count(7)", "count(10)").due(7, "kinds(0)");
        // all else comes back
        Told u = Told.city("g1,6;c0,0,3;c1,5,2;f0,1,4,0,9;f1,2,2,5,0;").then("pass(7)", "take(1, 0)", "send(0, 2)")
            .due(1, "keep()");
        u.then("pass(9)", "take(0, 1)", "send(1, 0)").due(0, "back()").due(7, "count(4)").due(1, "count(5)", "count(6)");
        u.cab(0, 2, 9, 3).cab(1, 4, 17, 4).fare(0, 1, 17, 1).fare(1, 0, NONE, 0).due(0, "count(8)", "count(9)");
    }

    private static void backUndone() {
        Told t = Told.city(ONE).then("pass(1)").due(1, "keep()").then("pass(1)", "pass(1)").due(3, "count(8)").due(0, "back()");
        t.due(0, "count(8)").due(NO, "undo()").due(1, "count(4)").then("pass(4)").due(0, "undo()").due(1, "count(4)")
            .due(NO, "undo()");
        // a refused back() leaves what can be UNDONE
        Told u = Told.city(ONE).then("pass(1)").due(NO, "back()").due(1, "count(8)").due(0, "undo()").due(0, "count(4)");
        // what is UNDONE leaves what is KEPT
        u.then("pass(2)").due(1, "keep()").due(0, "undo()").due(1, "count(9)").due(0, "count(4)").due(0, "back()")
            .due(2, "count(4)");
    }

    private static void counts() {
        Told.city(ONE).row("count(#)", 1, 1, 1, 1, 0, 0, 0, 0, 0, 0, 23, BAD).due(BAD, "count(-1)");
        Told t = Told.city("g6,6;c0,0,0;c0,0,0;c0,0,0;" + "f1,0,0,0,0;".repeat(7))
            .row("count(#)", 36, 6, 3, 7, 0, 0, 0, 0, 0, 0, 103);
        for (int f = 0; f < 7; f++) t.then("take(0, " + f + ")");
        for (int i = 0; i < 6; i++) t.then("see(0, 0, 0)", "pass(60)");
        t.then("keep()", "keep()").more(" ".repeat(97)).row("count(#)", 36, 6, 3, 7, 360, 7, 7, 6, 8, 2, 200, BAD);
        t.due(BAD, "count(" + Told.MAX + ")", "count(" + Told.MIN + ")");
    }

    private static void suchAsThereAre() {
        Told t = Told.city(ONE).due(0, "far(0, 0)", "cab(0, 0)", "soonest(0)").due(2, "fare(0, 0)");
        t.due(BAD, "far(0, 1)", "far(1, 0)", "cab(1, 0)", "fare(1, 0)", "take(1, 0)", "take(0, 1)", "send(1, 0)", "send(0, 1)");
        t.due(BAD, "ride(1, 0, 0)", "ride(0, 1, 0)", "soonest(1)", "waiting(1, 0)", "mends(1)", "rivals(0, 1, 1, 0)");
        t.due(BAD, "see(1, 0, 0)", "see(0, 1, 0)", "wept(1, 0)", "kinds(1)").due(0, "count(5)", "count(7)", "count(8)");
        // none of those that the larger city before had
        Told u = Told.city("g6,6;c0,0,1;c0,0,1;c0,0,1;" + "f3,0,0,0,0;".repeat(7)).text(ONE).due(1, "lay()");
        u.due(BAD, "far(0, 1)", "cab(1, 0)", "fare(1, 0)", "take(1, 0)", "take(0, 1)", "send(0, 1)", "mends(6)", "kinds(2)");
        u.order(0, 0).row("wept(0, #)", 2, 0).row("waiting(0, #)", 0, 0).tears(1, 10, 0, 1).due(0, "soonest(0)")
            .row("round(#)", 1, 0);
    }

    private static void badAheadOfNo() {
        Told t = Told.city("g1,1;c0,0,0;f3,0,0,0,0;f2,0,0,0,0;").then("take(0, 0)")
            .due(NO, "take(0, 0)", "mends(0)", "mends(1)");
        t.due(BAD, "take(1, 0)", "take(-1, 0)", "take(" + Told.MAX + ", 0)", "take(" + Told.MIN + ", 0)", "take(0, 2)",
            "mends(2)", "mends(-1)");
    }

    private static void badAheadOfNone() {
        Told t = Told.city("g1,1;c0,0,0;c0,0,0;f2,0,0,0,0;").due(NONE, "cab(0, 3)", "fare(0, 6)", "order(2)")
            .due(BAD, "cab(2, 3)", "fare(1, 6)");
        t.then("take(0, 0)", "see(0, 0, 99)").due(NONE, "order(1)", "rivals(0, 1, 1, 1)", "wept(0, 1)");
        t.due(BAD, "order(8)", "order(-1)", "rivals(0, 0, 1, 1)", "rivals(0, 1, 5, 1)", "rivals(0, 1, 0, 1)",
            "rivals(0, 2, 1, 1)");
        t.due(BAD, "rivals(0, 1, 1, 2)", "wept(2, 1)", "wept(0, 2)", "cab(0, 4)", "fare(0, 8)");
        Told never = Told.city("g5,6;c2,23,23;c2,22,16;c2,16,13;f2,12,22,9,7;f3,23,20,14,7;f0,1,16,16,10;f3,1,23,16,14;");
        never.due(NONE, "round(0)", "round(1)").due(BAD, "round(2)", "round(-1)");
    }

    private static void badAheadOfFull() {
        Told t = Told.city(ONE).more(" ".repeat(200 - ONE.length())).due(FULL, "write(32)")
            .due(BAD, "write(31)", "write(127)", "write(-1)");
        t.due(BAD, "write(" + Told.MAX + ")", "write(" + Told.MIN + ")").then("see(0, 0, 0)", "see(0, 0, 0)", "see(0, 0, 0)");
        t.then("see(0, 0, 0)", "see(0, 0, 0)", "see(0, 0, 0)").due(FULL, "see(0, 0, 400)")
            .due(BAD, "see(0, 0, 401)", "see(0, 0, -1)");
        t.due(BAD, "see(1, 0, 0)", "see(-1, 0, 0)", "see(0, 1, 0)", "see(0, -1, 0)").due(6, "count(7)").due(200, "count(10)");
    }

    private static void lastCall() {
        Told t = new Told();
        for (int i = 1; i <= 510; i++) t.due(60 * i, "pass(60)");
        t.due(30600 + 6, "take(0, 0)").due(30600 + 6, "fare(0, 6)");
        Told u = new Told();
        for (int i = 1; i <= 511; i++) u.then("send(0, " + (i % 2 == 0 ? 0 : 15) + ")");
        u.due(511 * 6, "cab(0, 2)");
    }
}
