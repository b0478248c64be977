/** What the tests share: counties by their text, answers that are due, exceptions that are due. */
final class Due {
    interface Call {
        Object answer();
    }

    static final int NSE = 1;
    static final int IAE = 2;

    private static int wrong = 0;
    private static String promise = "";

    private Due() {
    }

    static void promise(String name) {
        promise = name;
    }

    static int feed(TemperDowns x, String text) {
        int many = x.count(13);
        for (int[] row : Text.rows(text)) {
            many = x.feed(row[0], row[1], row[2], row[3], row[4]);
        }
        return many;
    }

    static int read(TemperDowns x, String text) {
        feed(x, text);
        return x.county(text.length());
    }

    static TemperDowns of(String text) {
        TemperDowns x = new TemperDowns();
        is("county of " + text, read(x, text), 0);
        return x;
    }

    static void is(String what, long got, long want) {
        if (got != want) {
            wrong++;
            System.out.println(promise + ": " + what + " answered " + got + ", due is " + want);
        }
    }

    static void is(String what, boolean got, boolean want) {
        is(what, got ? 1 : 0, want ? 1 : 0);
    }

    static void fault(String text, int code, int place) {
        TemperDowns x = new TemperDowns();
        is("county of " + text, read(x, text), code);
        is("fault of " + text, x.fault(), place);
    }

    /** What a call throws: 0 nothing, NSE, IAE, 3 another one. */
    private static int thrown(Call call) {
        try {
            call.answer();
            return 0;
        } catch (RuntimeException e) {
            return e.getClass() == java.util.NoSuchElementException.class ? NSE
                    : e.getClass() == IllegalArgumentException.class ? IAE : 3;
        }
    }

    static void none(String what, Call call) {
        is(what + " throws (1 NoSuchElementException)", thrown(call), NSE);
    }

    static void wrong(String what, Call call) {
        is(what + " throws (2 IllegalArgumentException)", thrown(call), IAE);
    }

    static void end() {
        System.out.println(wrong == 0 ? "all answers are as due" : wrong + " answers are not as due");
        if (wrong != 0) {
            System.exit(1);
        }
    }
}
