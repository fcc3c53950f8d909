/** Counts the answers that are not as due, for the tests of the project. */
final class Check {
    private static int made = 0;
    private static int wrong = 0;
    private static String test = "";

    private Check() {
    }

    static int made() {
        return made;
    }

    static int wrong() {
        return wrong;
    }

    /** What is looked at from here on is told with this name. */
    static void begin(String name) {
        test = name + ": ";
    }

    static void due(String what, long got, long want) {
        made++;
        if (got != want) {
            tellWrong(what, Long.toString(got), Long.toString(want));
        }
    }

    static void due(String what, double got, double want) {
        made++;
        if (Double.compare(got, want) != 0) {
            tellWrong(what, Double.toString(got), Double.toString(want));
        }
    }

    static void due(String what, boolean got) {
        made++;
        if (!got) {
            tellWrong(what, "false", "true");
        }
    }

    static void due(String what, String got, String want) {
        made++;
        if (!got.equals(want)) {
            tellWrong(what, got, want);
        }
    }

    /** The call throws exactly this exception and leaves the digest as it was. */
    static void refused(PodGuideway x, String what, Class<?> want, Runnable call) {
        long before = x.digest();
        String got = "nothing";
        try {
            call.run();
        } catch (RuntimeException e) {
            got = e.getClass().getName();
        }
        due(what + " throws", got, want.getName());
        due(what + " changes nothing", x.digest(), before);
    }

    /** One row of answers, joined, so that a test can write them out in one line. */
    static String row(long... numbers) {
        StringBuilder text = new StringBuilder();
        for (long number : numbers) {
            text.append(text.length() == 0 ? "" : " ").append(number);
        }
        return text.toString();
    }

    static String counts(PodGuideway x) {
        long[] told = new long[9];
        for (int what = 0; what < told.length; what++) {
            told[what] = x.count(what);
        }
        return row(told);
    }

    static String told(PodGuideway x, int pod) {
        long[] told = new long[6];
        for (int what = 0; what < told.length; what++) {
            told[what] = x.told(pod, what);
        }
        return row(told);
    }

    static String station(PodGuideway x, int station) {
        long[] told = new long[7];
        for (int what = 0; what < told.length; what++) {
            told[what] = x.station(station, what);
        }
        return row(told);
    }

    static PodGuideway ring(int... places) {
        PodGuideway x = new PodGuideway();
        for (int place : places) {
            x.build(place);
        }
        return x;
    }

    static void finish() {
        System.out.println(made + " checks, " + wrong + " wrong");
        if (wrong != 0 || made == 0) {
            System.exit(1);
        }
    }

    private static void tellWrong(String what, String got, String want) {
        wrong++;
        if (wrong <= 40) {
            System.out.println(test + what + ": answered " + got + ", due is " + want);
        }
    }
}
