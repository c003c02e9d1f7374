/** Terms, 1: every bound that is told of THE TEXT and its ITEMS, on both sides of it. */
public final class TextEdgesTest {
    private static final int BAD = Told.BAD, NO = Told.NO, FULL = Told.FULL, NONE = Told.NONE;
    private static final String CAB = "c0,0,0;", FARE = "f0,0,0,0,0;";

    public static void main(String[] args) {
        Check.test("'letters (200 at most)': the 200th and the 201st", TextEdgesTest::letters);
        Check.test("'letters (200 at most)': all 200 are told", TextEdgesTest::lettersTold);
        Check.test("'A letter (32 to 126)': both ends, and what lies beyond", TextEdgesTest::letterNumbers);
        Check.test("'THE TEXT is empty': from empty, from one letter, from full", TextEdgesTest::wipe);
        Check.test("'ITEMS one behind the other': none, one, two, nothing between", TextEdgesTest::items);
        Check.test("'each a letter': g, c, f and no other", TextEdgesTest::itemLetter);
        Check.test("'then numbers': just so many", TextEdgesTest::howManyNumbers);
        Check.test("'(one or two figures)': none, one, two, three", TextEdgesTest::figures);
        Check.test("'(one or two figures)': 0 to 9, not the signs beside", TextEdgesTest::figureSigns);
        Check.test("'parted by ,': no other sign, none too many", TextEdgesTest::parted);
        Check.test("'and a ; behind the last one': no other sign, none missing", TextEdgesTest::closed);
        Check.test("'R rows of C (1 to 6 each'", TextEdgesTest::rowsOfPlaces);
        Check.test("'4, 4 without'", TextEdgesTest::withoutPlaces);
        Check.test("'no other ITEM ahead of it but g)'", TextEdgesTest::aheadOfPlaces);
        Check.test("'0 is the first of the first row, then along it, row by row'", TextEdgesTest::rowByRow);
        Check.test("'a CAB of KIND K (0 PLAIN, 1 SOFT, 2 BRISK)'", TextEdgesTest::cabKinds);
        Check.test("'in PLACE P, in which one WEPT in PLACE W': the last PLACE and one more", TextEdgesTest::cabPlaces);
        Check.test("'(P itself: nowhere)'", TextEdgesTest::weptInItself);
        Check.test("'3 at most, 0, 1, ..'", TextEdgesTest::howManyCabs);
        Check.test("'a FARE of KIND K (0 PLAIN, 1 GIRL, 2 STOIC, 3 BREWER)'", TextEdgesTest::fareKinds);
        Check.test("'from PLACE A to B': the last PLACE and one more", TextEdgesTest::farePlaces);
        Check.test("'(they may be alike)'", TextEdgesTest::alikePlaces);
        Check.test("'from step T (0 to 99) on'", TextEdgesTest::since);
        Check.test("'who BEARS H (0 to 60) steps'", TextEdgesTest::bears);
        Check.test("'7 at most, 0, 1, ..'", TextEdgesTest::howManyFares);
        Check.test("'the place of the first letter of the first ITEM that is not so'", TextEdgesTest::firstFault);
        Check.test("'LAID is a TEXT without FAULT, of a CAB and a FARE at least (NO else'", TextEdgesTest::laid);
        Check.test("'nothing SEEN, UNDONE, KEPT; THE TEXT stays'", TextEdgesTest::layForgets);
        Check.test("'at first ..': the first city, THE TEXT empty", TextEdgesTest::atFirst);
        Check.end();
    }

    private static void right(String... texts) {
        for (String s : texts) Check.due("fault() of " + s, new Told().text(s).answer("fault()"), NONE);
    }

    private static void wrongAt(int at, String... texts) {
        for (String s : texts) {
            Told t = new Told().text(s);
            Check.due("fault() of " + s, t.answer("fault()"), at);
            Check.due("lay() of " + s, t.answer("lay()"), NO);
        }
    }

    /** The ITEM, with each number from 0 to 99 in the place of #, is right from the least to the most alone. */
    private static void bounds(String ahead, String item, int least, int most) {
        for (int n = 0; n <= 99; n++) {
            String one = ahead + item.replace("#", "" + n);
            String two = ahead + item.replace("#", n < 10 ? "0" + n : "" + n);
            if (n >= least && n <= most) {
                right(one, two);
            } else {
                wrongAt(ahead.length(), one, two);
            }
        }
        wrongAt(ahead.length(), ahead + item.replace("#", "100"), ahead + item.replace("#", "2147483647"),
            ahead + item.replace("#", "-2147483648"), ahead + item.replace("#", "-1"));
    }

    private static void letters() {
        Told t = new Told();
        for (int n = 1; n <= 199; n++) t.due(n, "write(32)");
        t.due(200, "write(126)").due(FULL, "write(32)", "write(126)", "write(59)").due(200, "count(10)");
        t.due(200, "wipe()").due(1, "write(32)").due(1, "count(10)");
    }

    private static void lettersTold() {
        String laid = "g6,6;".repeat(35) + "g02,03;" + "c0,5,5;" + "f0,0,5,0,9;";
        Check.due("letters", laid.length(), 200);
        Told t = new Told().text(laid).due(FULL, "write(59)").due(NONE, "fault()").due(6, "lay()");
        t.due(200, "count(10)").due(1, "count(2)").due(1, "count(3)").row("fare(0, #)", 0, 0, 5, 0, 9, 0, NONE, 0);
        right("g6,6;".repeat(40));
        wrongAt(199, "g6,6;".repeat(37) + "g06,06;".repeat(2) + "x");
        wrongAt(195, "g6,6;".repeat(39) + "g6,66", "g6,6;".repeat(39) + "g6,7;");
        wrongAt(193, "g6,6;".repeat(33) + "g06,06;".repeat(4) + "g06,07;");
        // the letter that was one too many is no part of it
        new Told().text("g6,6;".repeat(39) + "g06,6").due(195, "fault()").due(FULL, "write(59)").due(195, "fault()");
    }

    private static void letterNumbers() {
        Told t = new Told().due(1, "write(32)").due(2, "write(126)");
        for (int bad : new int[] {31, 127, 0, -1, 128, 255, 256 + 32, 65536 + 32, 65536 + 126, -65504, Told.MAX, Told.MIN}) {
            t.due(BAD, "write(" + bad + ")");
        }
        t.due(2, "count(10)");
        Told all = new Told();
        for (int letter = 32; letter <= 126; letter++) all.due(letter - 31, "write(" + letter + ")");
        all.due(95, "count(10)", "wipe()").due(0, "count(10)");
    }

    private static void wipe() {
        new Told().due(0, "wipe()", "count(10)").due(NONE, "fault()");
        new Told().due(1, "write(120)").due(0, "fault()").due(1, "wipe()").due(0, "wipe()").due(NONE, "fault()");
        new Told().more("x".repeat(200)).due(200, "wipe()").due(0, "wipe()", "count(10)").due(NONE, "fault()");
        // a shorter TEXT is not followed by what stood there
        new Told().more(CAB + FARE + CAB).due(25, "wipe()").more("c0,0,0").due(0, "fault()").more(";").due(NONE, "fault()");
    }

    private static void items() {
        right("", CAB, FARE, "g1,1;", CAB + FARE, FARE + CAB, CAB + FARE + CAB + FARE);
        wrongAt(0, " ", " " + CAB, ";" + CAB, "," + CAB);
        for (String between : new String[] {" ", ";", ",", "x", "0"}) {
            wrongAt(7, CAB + between + FARE, CAB + between);
        }
    }

    private static void itemLetter() {
        for (char letter = 32; letter <= 126; letter++) {
            String[] texts = {"1,1;", "1,1,1;", "1,1,1,1,1;"};
            String rightOnes = "gcf";
            for (int i = 0; i < 3; i++) {
                if (letter == rightOnes.charAt(i)) {
                    right(letter + texts[i]);
                } else {
                    wrongAt(0, letter + texts[i]);
                }
            }
        }
        wrongAt(0, "1,1;", "1,1,1;", "1,1,1,1,1;", "gg1,1;", "cc1,1,1;", "ff1,1,1,1,1;", "G1,1;", "C1,1,1;", "F1,1,1,1,1;");
    }

    private static void howManyNumbers() {
        for (int n = 0; n <= 90; n++) {
            String numbers = n == 0 ? "" : "1" + ",1".repeat(n - 1);
            for (String letter : new String[] {"g", "c", "f"}) {
                int due = letter.equals("g") ? 2 : letter.equals("c") ? 3 : 5;
                if (n == due) {
                    right(letter + numbers + ";");
                } else {
                    wrongAt(0, letter + numbers + ";");
                }
            }
        }
    }

    /** Every ITEM with # in the place of one of its numbers; 1 is right everywhere. */
    private static String[] everyNumber() {
        return new String[] {"g#,1;", "g1,#;", "c#,1,1;", "c1,#,1;", "c1,1,#;", "f#,1,1,1,1;", "f1,#,1,1,1;", "f1,1,#,1,1;",
            "f1,1,1,#,1;", "f1,1,1,1,#;"};
    }

    private static void figures() {
        for (String item : everyNumber()) {
            right(item.replace("#", "1"), item.replace("#", "01"));
            for (String s : new String[] {"", "001", "010", "100", "0001", "65537", "4294967297", "18446744073709551617"}) {
                wrongAt(0, item.replace("#", s));
            }
        }
        right("c0,0,0;", "c00,00,00;", "f0,0,0,0,0;", "f00,00,00,00,00;");
        wrongAt(0, "c000,0,0;", "f0,0,0,0,000;");
    }

    private static void figureSigns() {
        for (String item : everyNumber()) {
            for (char sign = 32; sign <= 126; sign++) {
                if (sign >= '0' && sign <= '9') continue;
                wrongAt(0, item.replace("#", "" + sign), item.replace("#", sign + "1"));
                // 1; is a number and the end of its ITEM
                if (sign != ';') wrongAt(0, item.replace("#", "1" + sign));
            }
        }
        for (char figure = '0'; figure <= '9'; figure++) right("f0,0,0," + figure + ",0;", "f0,0,0," + figure + figure + ",0;");
    }

    private static void parted() {
        for (char sign = 32; sign <= 126; sign++) {
            if (sign == ',') continue;
            wrongAt(0, "g1" + sign + "1;", "c1" + sign + "1,1;", "c1,1" + sign + "1;", "f1" + sign + "1,1,1,1;",
                "f1,1" + sign + "1,1,1;", "f1,1,1" + sign + "1,1;", "f1,1,1,1" + sign + "1;");
        }
        wrongAt(0, "g,1,1;", "g1,1,;", "g1,,1;", "c,1,1,1;", "c1,1,1,;", "c1,,1,1;", "f1,1,1,1,1,;", "f,1,1,1,1,1;", "g,;",
            "c,,;", "f,,,,;");
    }

    private static void closed() {
        wrongAt(0, "g1,1", "c1,1,1", "f1,1,1,1,1", "g", "c", "f", "g1", "g1,");
        for (char sign = 32; sign <= 126; sign++) {
            if (sign == ';') continue;
            wrongAt(0, "g1,1" + sign, "c1,1,1" + sign, "f1,1,1,1,1" + sign, "c1,1,1" + sign + "f1,1,1,1,1;");
            wrongAt(7, "c1,1,1;f1,1,1,1,1" + sign);
        }
        wrongAt(0, "g;", "c;", "f;", ";");
        wrongAt(5, "g1,1;;");
        wrongAt(7, CAB + ";" + FARE);
    }

    private static void rowsOfPlaces() {
        bounds("", "g#,1;", 1, 6);
        bounds("", "g1,#;", 1, 6);
        bounds("g3,3;", "g#,6;", 1, 6);
        bounds("g3,3;", "g6,#;", 1, 6);
        for (int rows = 1; rows <= 6; rows++) {
            for (int columns = 1; columns <= 6; columns++) {
                Told.city("g" + rows + "," + columns + ";" + CAB + FARE).due(rows * columns, "count(0)")
                    .due(columns, "count(1)");
            }
        }
    }

    private static void withoutPlaces() {
        Told.city("c0,15,0;f0,15,15,0,0;").due(16, "count(0)").due(4, "count(1)").due(0, "cab(0, 3)").due(15, "cab(0, 1)");
        wrongAt(0, "c0,16,0;", "c0,0,16;", "f0,16,0,0,0;", "f0,0,16,0,0;");
        // behind a larger city, and behind a TEXT that told one, it is 4, 4 again
        Told t = Told.city("g6,6;c0,35,35;f0,35,35,0,0;").text("c0,15,15;" + FARE).due(NONE, "fault()").due(16, "lay()");
        t.due(4, "count(1)").text("c0,16,16;" + FARE).due(0, "fault()").due(NO, "lay()");
    }

    private static void aheadOfPlaces() {
        right("g1,1;", "g1,1;g6,6;", "g1,1;g6,6;g2,2;" + CAB + FARE);
        wrongAt(7, CAB + "g4,4;", CAB + "g4,4;" + FARE);
        wrongAt(11, FARE + "g4,4;", FARE + "g4,4;" + CAB);
        wrongAt(12, "g4,4;" + CAB + "g4,4;");
        wrongAt(16, "g4,4;" + FARE + "g4,4;");
        wrongAt(18, CAB + FARE + "g4,4;");
        // the last one counts, larger or smaller
        Told.city("g2,3;g6,5;c0,29,29;" + FARE).due(30, "count(0)").due(5, "count(1)");
        wrongAt(10, "g6,5;g2,3;c0,6,0;", "g6,5;g2,3;c0,0,6;", "g6,5;g2,3;f0,6,0,0,0;");
    }

    private static void rowByRow() {
        // 0 1 2 / 3 4 5
        Told t = Told.city("g2,3;" + CAB + FARE).due(0, "far(0, 0)", "far(5, 5)").due(1, "far(0, 1)", "far(1, 2)", "far(0, 3)");
        t.due(2, "far(0, 2)", "far(0, 4)", "far(1, 5)").due(3, "far(2, 3)", "far(0, 5)").due(BAD, "far(0, 6)", "far(6, 0)");
        // 0 1 / 2 3 / 4 5
        Told.city("g3,2;" + CAB + FARE).due(1, "far(0, 2)", "far(2, 4)").due(2, "far(1, 2)", "far(0, 4)").due(3, "far(1, 4)");
        Told.city("g1,6;" + CAB + FARE).due(5, "far(0, 5)", "far(5, 0)");
        Told.city("g6,1;" + CAB + FARE).due(5, "far(0, 5)", "far(5, 0)");
        Told.city("g6,6;" + CAB + FARE).due(10, "far(0, 35)", "far(5, 30)").due(6, "far(5, 6)").due(0, "far(35, 35)");
        Told.city("g1,1;" + CAB + FARE).due(0, "far(0, 0)").due(BAD, "far(0, 1)", "far(1, 0)");
    }

    private static void cabKinds() {
        bounds("", "c#,1,1;", 0, 2);
        bounds(FARE + CAB, "c#,0,0;", 0, 2);
        Told.city("c2,0,0;c1,0,0;c0,0,0;" + FARE).due(2, "cab(0, 0)").due(1, "cab(1, 0)").due(0, "cab(2, 0)");
    }

    private static void cabPlaces() {
        String[] cities = {"", "g1,1;", "g2,3;", "g6,6;", "g6,1;", "g1,6;"};
        int[] places = {16, 1, 6, 36, 6, 6};
        for (int i = 0; i < cities.length; i++) {
            bounds(cities[i], "c0,#,0;", 0, places[i] - 1);
            bounds(cities[i], "c0,0,#;", 0, places[i] - 1);
            bounds(cities[i] + CAB, "c2,#,0;", 0, places[i] - 1);
        }
        Told.city("g6,6;c0,35,0;c0,0,35;" + FARE).cab(0, 35, 0, 0).cab(1, 0, 0, 35);
    }

    private static void weptInItself() {
        for (int w = 0; w < 6; w++) {
            for (int p = 0; p < 6; p++) {
                Told t = Told.city("g2,3;c0," + p + "," + w + ";f2,3,3,0,0;").cab(0, p, 0, w == p ? NONE : w);
                t.due(w == p ? 0 : 1, "ride(0, 0, 3)");
            }
        }
    }

    private static void howManyCabs() {
        String[] cabs = {"", "c0,0,9;", "c1,1,8;", "c2,2,7;"};
        StringBuilder s = new StringBuilder();
        for (int n = 1; n <= 3; n++) {
            s.append(cabs[n]);
            Told t = Told.city(s + FARE).due(n, "count(2)");
            for (int c = 0; c < n; c++) t.due(c, "cab(" + c + ", 0)").cab(c, c, 0, 9 - c);
            t.due(BAD, "cab(" + n + ", 0)");
        }
        right(s.toString());
        wrongAt(21, s + "c0,0,0;", s + "c0,0,0;" + FARE);
        wrongAt(32, s + FARE + "c0,0,0;");
        wrongAt(33, s + "f0,0,10,0,0;" + "c0,0,0;" + CAB);
        Told.city("c0,0,9;" + FARE + "c1,1,8;" + FARE + "c2,2,7;").due(3, "count(2)").due(2, "count(3)").cab(2, 2, 0, 7);
    }

    private static void fareKinds() {
        bounds("", "f#,1,1,1,1;", 0, 3);
        bounds(CAB + FARE, "f#,0,0,0,0;", 0, 3);
        Told t = Told.city(CAB + "f3,0,0,0,0;f2,0,0,0,0;f1,0,0,0,0;f0,0,0,0,0;");
        for (int f = 0; f < 4; f++) t.due(3 - f, "fare(" + f + ", 0)");
    }

    private static void farePlaces() {
        String[] cities = {"", "g1,1;", "g2,3;", "g6,6;", "g6,1;", "g1,6;"};
        int[] places = {16, 1, 6, 36, 6, 6};
        for (int i = 0; i < cities.length; i++) {
            bounds(cities[i], "f0,#,0,0,0;", 0, places[i] - 1);
            bounds(cities[i], "f0,0,#,0,0;", 0, places[i] - 1);
            bounds(cities[i] + FARE, "f3,#,0,99,60;", 0, places[i] - 1);
        }
        Told.city("g6,6;" + CAB + "f0,35,0,0,0;f0,0,35,0,0;").due(35, "fare(0, 1)", "fare(1, 2)")
            .due(0, "fare(0, 2)", "fare(1, 1)");
    }

    private static void alikePlaces() {
        Told t = Told.city("g2,3;c0,0,0;f0,0,0,0,0;f0,5,5,0,4;f0,5,4,0,4;");
        t.ride(0, 0, 0, 0, 0, 0).ride(0, 1, 3, 3, 0, 0).ride(0, 2, 4, 4, 0, 0);
    }

    private static void since() {
        bounds("", "f0,0,0,#,0;", 0, 99);
        bounds("g1,1;" + CAB, "f3,0,0,#,60;", 0, 99);
        Told t = Told.city("g1,1;" + CAB + "f0,0,0,0,0;f0,0,0,99,0;").due(0, "fare(0, 3)").due(99, "fare(1, 3)");
        t.due(0, "ride(0, 0, 0)").due(99, "ride(0, 1, 0)").due(0, "ride(0, 1, 1)");
    }

    private static void bears() {
        bounds("", "f0,0,0,0,#;", 0, 60);
        bounds("g1,1;" + CAB, "f3,0,0,99,#;", 0, 60);
        Told.city("g1,1;" + CAB + "f0,0,0,0,0;f0,0,0,0,60;").due(0, "fare(0, 4)").due(60, "fare(1, 4)");
    }

    private static void howManyFares() {
        StringBuilder s = new StringBuilder();
        for (int n = 1; n <= 7; n++) {
            s.append("f0,0,0,").append(n).append(",0;");
            right(s.toString());
            Told t = Told.city(s + CAB).due(n, "count(3)");
            for (int f = 0; f < n; f++) t.due(f + 1, "fare(" + f + ", 3)");
            t.due(BAD, "fare(" + n + ", 3)", "fare(" + n + ", 5)", "fare(" + n + ", 6)");
        }
        wrongAt(77, s + FARE, s + FARE + CAB);
        wrongAt(84, s + CAB + FARE);
        wrongAt(98, s + CAB + CAB + CAB + FARE, s + CAB + CAB + CAB + CAB);
        Told.city("f0,0,0,1,0;" + CAB + "f0,0,0,2,0;" + CAB + "f0,0,0,3,0;").due(3, "count(3)").due(3, "fare(2, 3)");
    }

    private static void firstFault() {
        right("");
        wrongAt(0, "x", "c3,0,0;c3,0,0;", "c3,0,0;" + FARE, "c0,0,0", "x" + CAB);
        wrongAt(7, CAB + "x", CAB + "c3,0,0;c3,0,0;", CAB + "c3,0,0;" + FARE, CAB + "f0,0,0,0,0");
        wrongAt(9, "c0,00,00;x", "c0,00,00;c0,0");
        wrongAt(18, CAB + FARE + "f0,0,0,0,99;x", CAB + FARE + "f", CAB + FARE + "f0,0,0,0,61;" + FARE);
        // the first letter of the ITEM, not the letter that makes it wrong
        wrongAt(5, "g1,1;c0,0,1;", "g1,1;c0,0,0", "g1,1;c0,0,00x");
        // asked while it is written
        Told t = new Told().due(NONE, "fault()").more("g2,2").due(0, "fault()").more(";").due(NONE, "fault()").more("c");
        t.due(5, "fault()").more("0,4,0").due(5, "fault()").more(";").due(5, "fault()").more(FARE).due(5, "fault()");
    }

    private static void laid() {
        for (String s : new String[] {"", "g4,4;", CAB, FARE, CAB + CAB + CAB, FARE.repeat(7), "g1,1;" + CAB, "g1,1;" + FARE,
            CAB + FARE + "x", CAB + FARE + ";", "x" + CAB + FARE, CAB + "f0,0,0,0,0"}) {
            Told t = new Told().text(s).due(NO, "lay()").due(s.length(), "count(10)");
            t.due(16, "count(0)").due(3, "count(2)").due(6, "count(3)").cab(0, 0, 0, 10).due(9, "fare(0, 4)");
        }
        new Told().text(CAB + FARE).due(16, "lay()");
        new Told().text(FARE + CAB).due(16, "lay()");
        new Told().text("g1,1;" + CAB + FARE).due(1, "lay()");
        new Told().text("g6,6;" + CAB + FARE).due(36, "lay()");
        // what is missing comes behind a NO
        new Told().text("g1,2;" + CAB).due(NO, "lay()").more("f0,0,0,0,0").due(NO, "lay()").more(";").due(2, "lay()");
    }

    private static void layForgets() {
        Told t = Told.city("g1,6;c0,0,3;f1,1,4,0,9;f2,2,2,5,0;");
        t.then("take(0, 0)", "send(0, 0)", "pass(7)", "see(0, 0, 1)", "see(0, 1, 2)", "keep()", "keep()");
        t.due(6, "lay()").row("count(#)", 6, 6, 1, 2, 0, 0, 0, 0, 0, 0, 34);
        t.cab(0, 0, 0, 3).fare(0, 0, NONE, 0).due(NO, "undo()", "back()").due(0, "forget()").due(7, "wept(0, 0)", "kinds(0)");
        t.due(1, "keep()").due(2, "keep()").due(FULL, "keep()").due(1, "see(0, 0, 1)").due(1, "pass(1)").due(0, "undo()");
        t.due(34, "wipe()").due(NO, "lay()").due(2, "count(9)").due(1, "count(7)");
        // behind it 2 can be KEPT and 8 UNDONE again, however many were
        Told u = Told.city("g1,1;c0,0,0;f2,0,0,0,0;");
        for (int n = 0; n < 8; n++) {
            for (int i = 0; i < n; i++) u.then("pass(1)");
            u.then("keep()").due(1, "lay()").due(1, "keep()").due(0, "back()").due(NO, "back()");
            for (int i = 1; i <= 9; i++) u.then("pass(1)").due(Math.min(i, 8), "count(8)");
            for (int i = 7; i >= 0; i--) u.due(i, "undo()");
            u.due(NO, "undo()").due(1, "count(4)").due(1, "lay()");
        }
    }

    private static void atFirst() {
        String first = "g4,4;c0,0,10;c1,15,15;c2,5,2;f0,1,14,0,9;f1,4,7,2,20;f2,12,3,3,12;f3,9,2,5,15;f0,6,11,6,6;f1,13,0,9,30;";
        for (Told t : new Told[] {new Told(), Told.city(first).then("wipe()")}) {
            t.row("count(#)", 16, 4, 3, 6, 0, 0, 0, 0, 0, 0, 0, BAD).due(NONE, "fault()").due(NO, "lay()", "undo()", "back()");
            t.row("cab(0, #)", 0, 0, 0, 10, BAD).row("cab(1, #)", 1, 15, 0, NONE, BAD).row("cab(2, #)", 2, 5, 0, 2, BAD);
            t.row("fare(0, #)", 0, 1, 14, 0, 9, 0, NONE, 0, BAD).row("fare(1, #)", 1, 4, 7, 2, 20, 0, NONE, 0, BAD);
            t.row("fare(2, #)", 2, 12, 3, 3, 12, 0, NONE, 0, BAD).row("fare(3, #)", 3, 9, 2, 5, 15, 0, NONE, 0, BAD);
            t.row("fare(4, #)", 0, 6, 11, 6, 6, 0, NONE, 0, BAD).row("fare(5, #)", 1, 13, 0, 9, 30, 0, NONE, 0, BAD);
            t.due(BAD, "cab(3, 0)", "fare(6, 0)", "far(0, 16)").due(0, "forget()", "wipe()");
        }
    }
}
