/** What the tests share: due answers, rows 'ok ..' and 'FAILED ..', cities laid from a text. */
final class Check {
    private static int wrong = 0;
    private static int failedTests = 0;

    private Check() {
    }

    static void due(String call, long got, long want) {
        if (got != want) {
            wrong++;
            System.out.println("  " + call + " answered " + got + ", due is " + want);
        }
    }

    static void test(String name, Runnable body) {
        wrong = 0;
        try {
            body.run();
        } catch (RuntimeException | Error thrown) {
            wrong++;
            System.out.println("  threw " + thrown);
            thrown.printStackTrace(System.out);
        }
        if (wrong > 0) {
            failedTests++;
        }
        System.out.println((wrong == 0 ? "ok " : "FAILED ") + name);
    }

    static void end() {
        if (failedTests > 0) {
            System.exit(1);
        }
    }

    /** THE TEXT is this and nothing else. */
    static void text(CabTears x, String letters) {
        x.wipe();
        for (int i = 0; i < letters.length(); i++) {
            due("write(" + (int) letters.charAt(i) + ")", x.write(letters.charAt(i)), i + 1);
        }
    }

    static CabTears laid(String letters) {
        CabTears x = new CabTears();
        text(x, letters);
        due("fault() of " + letters, x.fault(), CabTears.NONE);
        due("lay() of " + letters, x.lay(), x.count(0));
        return x;
    }

    static void cabIs(CabTears x, int c, int place, int free, int weptIn) {
        due("cab(" + c + ", 1)", x.cab(c, 1), place);
        due("cab(" + c + ", 2)", x.cab(c, 2), free);
        due("cab(" + c + ", 3)", x.cab(c, 3), weptIn);
    }

    static void fareIs(CabTears x, int f, int taken, int late, int wept) {
        due("fare(" + f + ", 5)", x.fare(f, 5), taken);
        due("fare(" + f + ", 6)", x.fare(f, 6), late);
        due("fare(" + f + ", 7)", x.fare(f, 7), wept);
    }

    static void rideIs(CabTears x, int c, int f, int free, int late, int weeps, int by) {
        String call = "ride(" + c + ", " + f + ", ";
        due(call + "0)", x.ride(c, f, 0), free);
        due(call + "1)", x.ride(c, f, 1), late);
        due(call + "2)", x.ride(c, f, 2), weeps);
        due(call + "3)", x.ride(c, f, 3), by);
    }

    static void orderIs(CabTears x, int weeping, int... fares) {
        due("order(0)", x.order(0), weeping);
        for (int k = 1; k <= 7; k++) {
            due("order(" + k + ")", x.order(k), k <= fares.length ? fares[k - 1] : CabTears.NONE);
        }
    }
}
