/** Promises 1 to 8: the city as THE TEXT tells it. */
public final class CitiesTest {
    private static final int MAX = Integer.MAX_VALUE, MIN = Integer.MIN_VALUE;

    public static void main(String[] args) {
        Check.test("promise 1 a new object", CitiesTest::newObject);
        Check.test("promise 2 write", CitiesTest::write);
        Check.test("promise 2 write FULL", CitiesTest::writeFull);
        Check.test("promise 3 wipe", CitiesTest::wipe);
        Check.test("promise 4 fault in ITEMS and figures", CitiesTest::faultOfItems);
        Check.test("promise 4 fault in g", CitiesTest::faultOfPlaces);
        Check.test("promise 4 fault in c", CitiesTest::faultOfCabs);
        Check.test("promise 4 fault in f", CitiesTest::faultOfFares);
        Check.test("promise 5 lay", CitiesTest::lay);
        Check.test("promise 5 lay NO", CitiesTest::layNo);
        Check.test("promise 6 far", CitiesTest::far);
        Check.test("promise 7 cab", CitiesTest::cab);
        Check.test("promise 8 fare", CitiesTest::fare);
        Check.end();
    }

    private static void newObject() {
        Check.due("BAD", CabTears.BAD, -1);
        Check.due("NO", CabTears.NO, -2);
        Check.due("FULL", CabTears.FULL, -3);
        Check.due("NONE", CabTears.NONE, -4);
        CabTears x = new CabTears();
        int[] counts = {16, 4, 3, 6, 0, 0, 0, 0, 0, 0, 0};
        for (int i = 0; i < counts.length; i++) Check.due("count(" + i + ")", x.count(i), counts[i]);
        int[][] cabs = {{0, 0, 0, 10}, {1, 15, 0, -4}, {2, 5, 0, 2}};
        for (int c = 0; c < 3; c++) {
            for (int w = 0; w < 4; w++) Check.due("cab(" + c + ", " + w + ")", x.cab(c, w), cabs[c][w]);
        }
        int[][] fares = {{0, 1, 14, 0, 9}, {1, 4, 7, 2, 20}, {2, 12, 3, 3, 12}, {3, 9, 2, 5, 15}, {0, 6, 11, 6, 6},
            {1, 13, 0, 9, 30}};
        for (int f = 0; f < 6; f++) {
            for (int w = 0; w < 5; w++) Check.due("fare(" + f + ", " + w + ")", x.fare(f, w), fares[f][w]);
            Check.fareIs(x, f, 0, -4, 0);
        }
        Check.due("fault()", x.fault(), -4);
        Check.due("lay()", x.lay(), -2);
        Check.due("undo()", x.undo(), -2);
        Check.due("back()", x.back(), -2);
        Check.due("forget()", x.forget(), 0);
        Check.due("wipe()", x.wipe(), 0);
    }

    private static void write() {
        CabTears x = new CabTears();
        Check.due("write(32)", x.write(32), 1);
        Check.due("write(126)", x.write(126), 2);
        for (int bad : new int[] {31, 127, -1, 0, MAX, MIN, 32 + 65536}) {
            Check.due("write(" + bad + ")", x.write(bad), -1);
        }
        Check.due("count(10)", x.count(10), 2);
        Check.due("write('g')", x.write('g'), 3);
        Check.due("count(10)", x.count(10), 3);
    }

    private static void writeFull() {
        CabTears x = new CabTears();
        for (int i = 1; i <= 200; i++) Check.due("write(';')", x.write(';'), i);
        Check.due("write('c') behind 200", x.write('c'), -3);
        Check.due("write(31) behind 200", x.write(31), -1);
        Check.due("count(10)", x.count(10), 200);
        Check.due("wipe()", x.wipe(), 200);
        Check.due("write('c')", x.write('c'), 1);
    }

    private static void wipe() {
        CabTears x = new CabTears();
        Check.due("wipe() at first", x.wipe(), 0);
        Check.text(x, "g1,1");
        Check.due("wipe()", x.wipe(), 4);
        Check.due("count(10)", x.count(10), 0);
        Check.due("wipe() again", x.wipe(), 0);
        Check.due("fault()", x.fault(), -4);
        Check.due("write('c')", x.write('c'), 1);
        Check.due("fault()", x.fault(), 0);
        Check.due("count(0)", x.count(0), 16);
    }

    private static void faultIs(String letters, int due) {
        CabTears x = new CabTears();
        Check.text(x, letters);
        Check.due("fault() of " + letters, x.fault(), due);
        Check.due("fault() again of " + letters, x.fault(), due);
        Check.due("count(0)", x.count(0), 16);
        Check.due("count(10)", x.count(10), letters.length());
    }

    private static void faultOfItems() {
        faultIs("", -4);
        faultIs("c0,0,0;f0,0,0,0,0;", -4);
        faultIs("f0,0,0,0,0;c0,0,0;f0,0,0,0,0;", -4);
        for (String s : new String[] {";", ",", " ", "c", "c;", "c,;", "c0", "c0,0,0", "c0,0,0,", "c0,0,0,;", "c,0,0;",
            "c0,,0;", "c0,0;", "c0,0,0,0;", "c0,0,-1;", "c0, 0,0;", " c0,0,0;", "C0,0,0;", "x0,0,0;", "0,0,0;",
            "c0,0,000;", "c000,0,0;", "c0.0,0;", "c0,0:0;", "c0,0,/;", "cc0,0,0;", "f0,0,0,0,0,0;", "f0,0,0,0,0,0,0,0;"}) {
            faultIs(s, 0);
        }
        faultIs("c00,00,00;f00,09,05,00,07;", -4);
        faultIs("c0,0,0;;", 7);
        faultIs("c0,0,0; f0,0,0,0,0;", 7);
        faultIs("c0,0,0;f0,0,0,0,0", 7);
        faultIs("c0,0,0;f0,0,0,0,0;x;c9,9,9;", 18);
        faultIs("c0,0,0;f0,0,0,0,99;c9,9,9;", 7);
    }

    private static void faultOfPlaces() {
        faultIs("g1,1;", -4);
        faultIs("g6,6;", -4);
        faultIs("g06,01;", -4);
        for (String s : new String[] {"g0,4;", "g4,0;", "g7,4;", "g4,7;", "g006,1;", "g4;", "g4,4,4;", "g;", "g,;", "g4,4"}) {
            faultIs(s, 0);
        }
        faultIs("g2,2;g6,6;c0,35,35;", -4);
        faultIs("g6,6;g2,2;c0,4,0;", 10);
        faultIs("g6,6;g0,2;c0,4,0;", 5);
        faultIs("c0,0,0;g4,4;", 7);
        faultIs("g4,4;f0,0,0,0,0;g4,4;", 16);
    }

    private static void faultOfCabs() {
        faultIs("c2,15,15;", -4);
        faultIs("c3,0,0;", 0);
        faultIs("c0,16,0;", 0);
        faultIs("c0,0,16;", 0);
        faultIs("g2,3;c0,5,5;c0,6,0;", 12);
        faultIs("g2,3;c0,5,5;c0,0,6;", 12);
        faultIs("g6,6;c0,35,35;", -4);
        faultIs("g6,6;c0,36,35;", 5);
        faultIs("c0,0,0;c0,0,0;c0,0,0;", -4);
        faultIs("c0,0,0;c0,0,0;c0,0,0;c0,0,0;", 21);
        faultIs("c0,0,0;c0,0,0;f0,0,0,0,0;c0,0,0;c0,0,0;", 32);
    }

    private static void faultOfFares() {
        faultIs("f3,15,15,99,60;", -4);
        for (String s : new String[] {"f4,0,0,0,0;", "f0,16,0,0,0;", "f0,0,16,0,0;", "f0,0,0,100,0;", "f0,0,0,0,61;",
            "f0,0,0,0;", "f0,0,0,0,0,0;"}) {
            faultIs(s, 0);
        }
        String seven = "f0,0,0,0,0;".repeat(7);
        faultIs(seven, -4);
        faultIs(seven + "f0,0,0,0,0;", 77);
        faultIs(seven + "c0,0,0;f0,0,0,0,0;", 84);
    }

    private static void lay() {
        CabTears x = new CabTears();
        Check.text(x, "g2,3;f1,5,0,7,9;c1,4,2;");
        Check.due("count(0) ahead of lay()", x.count(0), 16);
        x.take(0, 0);
        x.pass(3);
        x.see(0, 0, 1);
        x.keep();
        Check.due("lay()", x.lay(), 6);
        int[] counts = {6, 3, 1, 1, 0, 0, 0, 0, 0, 0, 23};
        for (int i = 0; i < counts.length; i++) Check.due("count(" + i + ")", x.count(i), counts[i]);
        Check.due("cab(0, 0)", x.cab(0, 0), 1);
        Check.cabIs(x, 0, 4, 0, 2);
        Check.due("undo()", x.undo(), -2);
        Check.due("back()", x.back(), -2);
        x.take(0, 0);
        Check.due("lay() again", x.lay(), 6);
        Check.fareIs(x, 0, 0, -4, 0);
        Check.cabIs(x, 0, 4, 0, 2);
        x.wipe();
        Check.due("count(0) behind wipe()", x.count(0), 6);
        Check.due("places without g", Check.laid("c0,15,1;f0,0,0,0,0;").count(0), 16);
        Check.due("places of the last g", Check.laid("g2,2;g1,5;c0,4,1;f0,0,0,0,0;").count(0), 5);
        Check.due("columns of the last g", Check.laid("g2,2;g1,5;c0,4,1;f0,0,0,0,0;").count(1), 5);
    }

    private static void layNo() {
        for (String s : new String[] {"", "g1,1;", "c0,0,0;", "f0,0,0,0,0;", "c0,0,0;f0,0,0,0,0", "c0,0,0;f0,0,0,0,0;x"}) {
            CabTears x = new CabTears();
            Check.text(x, s);
            x.take(0, 0);
            x.see(0, 0, 1);
            x.keep();
            Check.due("lay() of " + s, x.lay(), -2);
            int[] counts = {16, 4, 3, 6, 0, 1, 0, 1, 1, 1, s.length()};
            for (int i = 0; i < counts.length; i++) Check.due("count(" + i + ")", x.count(i), counts[i]);
            Check.cabIs(x, 0, 14, 6, 10);
        }
    }

    private static void far() {
        CabTears x = Check.laid("g2,3;c0,0,0;f0,0,0,0,0;");
        int[][] due = {{0, 1, 2, 1, 2, 3}, {1, 0, 1, 2, 1, 2}, {2, 1, 0, 3, 2, 1}, {1, 2, 3, 0, 1, 2}, {2, 1, 2, 1, 0, 1},
            {3, 2, 1, 2, 1, 0}};
        for (int a = 0; a < 6; a++) {
            for (int b = 0; b < 6; b++) Check.due("far(" + a + ", " + b + ")", x.far(a, b), due[a][b]);
        }
        for (int bad : new int[] {-1, 6, 15, MAX, MIN}) {
            Check.due("far(" + bad + ", 0)", x.far(bad, 0), -1);
            Check.due("far(0, " + bad + ")", x.far(0, bad), -1);
        }
        Check.due("far(2, 3) of 3 rows", Check.laid("g3,2;c0,0,0;f0,0,0,0,0;").far(2, 3), 1);
        Check.due("far(0, 35)", Check.laid("g6,6;c0,0,0;f0,0,0,0,0;").far(0, 35), 10);
    }

    private static void cab() {
        CabTears x = Check.laid("g2,3;c2,4,2;c1,3,3;f1,5,0,7,9;");
        int[][] due = {{2, 4, 0, 2}, {1, 3, 0, -4}};
        for (int c = 0; c < 2; c++) {
            for (int w = 0; w < 4; w++) Check.due("cab(" + c + ", " + w + ")", x.cab(c, w), due[c][w]);
        }
        for (int bad : new int[] {-1, 2, 3, MAX, MIN}) Check.due("cab(" + bad + ", 0)", x.cab(bad, 0), -1);
        for (int bad : new int[] {-1, 4, MAX, MIN}) Check.due("cab(0, " + bad + ")", x.cab(0, bad), -1);
        // at 3 nobody wept: 7, 2 there to 5, 5 to 0 in 3
        Check.due("take(1, 0)", x.take(1, 0), 3 + 2);
        Check.cabIs(x, 1, 0, 12, 0);
        Check.due("send(1, 5)", x.send(1, 5), 15);
        Check.cabIs(x, 1, 5, 15, 0);
        Check.cabIs(x, 0, 4, 0, 2);
    }

    private static void fare() {
        CabTears x = Check.laid("g1,6;c0,0,0;f3,1,5,99,60;f0,0,2,0,1;f0,0,2,0,9;");
        int[] due = {3, 1, 5, 99, 60, 0, -4, 0};
        for (int w = 0; w < 8; w++) Check.due("fare(0, " + w + ")", x.fare(0, w), due[w]);
        for (int bad : new int[] {-1, 3, 6, 7, MAX, MIN}) Check.due("fare(" + bad + ", 0)", x.fare(bad, 0), -1);
        for (int bad : new int[] {-1, 8, MAX, MIN}) Check.due("fare(0, " + bad + ")", x.fare(0, bad), -1);
        x.take(0, 1);
        Check.fareIs(x, 0, 0, -4, 0);
        Check.fareIs(x, 1, 1, 2, 1);
        // from 2 back to 0, then to 2, where one wept, a step, and on to 2
        x.take(0, 2);
        Check.fareIs(x, 2, 1, 7, 0);
        // from 99 on: to 1, to 2, where one wept, a step, to 5
        x.take(0, 0);
        Check.fareIs(x, 0, 1, 6, 0);
    }
}
