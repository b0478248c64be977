/** What the tests share: counties by their text, answers, refusals, exceptions that are due. */
final class Due {
    interface Call {
        Object answer();
    }

    static final int NSE = 1;
    static final int IAE = 2;

    private static int wrong = 0;
    private static String promise = "";

    private Due() {
    }

    static void promise(String name) {
        promise = name;
    }

    static int feed(TemperDowns x, String text) {
        int many = x.count(13);
        for (int[] row : Text.rows(text)) {
            many = x.feed(row[0], row[1], row[2], row[3], row[4]);
        }
        return many;
    }

    static int read(TemperDowns x, String text) {
        feed(x, text);
        return x.county(text.length());
    }

    static TemperDowns of(String text) {
        TemperDowns x = new TemperDowns();
        is("county of " + text, read(x, text), 0);
        return x;
    }

    static void is(String what, long got, long want) {
        if (got != want) {
            wrong++;
            System.out.println(promise + ": " + what + " answered " + got + ", due is " + want);
        }
    }

    static void is(String what, boolean got, boolean want) {
        is(what, got ? 1 : 0, want ? 1 : 0);
    }

    static void fault(String text, int code, int place) {
        TemperDowns x = new TemperDowns();
        is("county of " + text, read(x, text), code);
        is("fault of " + text, x.fault(), place);
    }

    /** What a call throws: 0 nothing, NSE, IAE, 3 another one. */
    private static int thrown(Call call) {
        try {
            call.answer();
            return 0;
        } catch (RuntimeException e) {
            return e.getClass() == java.util.NoSuchElementException.class ? NSE
                    : e.getClass() == IllegalArgumentException.class ? IAE : 3;
        }
    }

    static void none(String what, Call call) {
        is(what + " throws (1 NoSuchElementException)", thrown(call), NSE);
    }

    static void wrong(String what, Call call) {
        is(what + " throws (2 IllegalArgumentException)", thrown(call), IAE);
    }

    /** Runs every test of a class, a method each, and says of which promise an answer is wrong. */
    static void runAll(Class<?> tests) {
        java.lang.reflect.Method[] methods = tests.getDeclaredMethods();
        java.util.Arrays.sort(methods, java.util.Comparator.comparing(java.lang.reflect.Method::getName));
        for (java.lang.reflect.Method m : methods) {
            if (m.getParameterCount() == 0 && !m.isSynthetic() && m.getReturnType() == void.class) {
                promise(tests.getSimpleName() + " " + m.getName());
                run(m);
            }
        }
        end();
    }

    private static void run(java.lang.reflect.Method test) {
        try {
            test.setAccessible(true);
            test.invoke(null);
        } catch (java.lang.reflect.InvocationTargetException e) {
            wrong++;
            System.out.println(promise + " throws " + e.getCause());
        } catch (IllegalAccessException e) {
            throw new AssertionError(e);
        }
    }

    /** All that can be seen of an object, but for what STATUS counts. */
    static String state(TemperDowns x) {
        StringBuilder s = new StringBuilder();
        for (int what = 0; what <= 13; what++) {
            s.append(x.count(what)).append(' ');
        }
        s.append(x.fault()).append(' ');
        for (int person = 0; person < x.count(0); person++) {
            for (int what = 0; what <= 6; what++) {
                s.append(x.person(person, what)).append(' ');
            }
        }
        for (int ball = 0; ball < x.count(1); ball++) {
            for (int what = 0; what <= 7; what++) {
                s.append(x.ball(ball, what)).append(' ');
            }
        }
        for (int what = 0; what <= 2; what++) {
            s.append(x.milder(what)).append(' ');
        }
        return s.toString();
    }

    /** Texts, acts, what is seen: how many of each were refused. */
    private static void status(String what, TemperDowns x, int[] due) {
        for (int kind = 0; kind < 3; kind++) {
            is(what + ": status " + kind, x.count(14 + kind), due[kind]);
        }
    }

    private static int[] status(TemperDowns x) {
        return new int[] {x.count(14), x.count(15), x.count(16)};
    }

    /** Each call is refused, with NONE or false, and counted; all else stays as it was. */
    static void refused(TemperDowns x, int kind, Call... calls) {
        String before = state(x);
        int[] due = status(x);
        for (int i = 0; i < calls.length; i++) {
            Object answer = calls[i].answer();
            is("refused call " + i, answer.equals(-1) || answer.equals(false), true);
            due[kind]++;
        }
        status("behind refused calls", x, due);
        is("all stays behind refused calls", state(x).equals(before), true);
    }

    /** Each call throws this one, none is counted, and all stays as it was. */
    static void thrown(TemperDowns x, int which, Call... calls) {
        String before = state(x);
        int[] due = status(x);
        for (int i = 0; i < calls.length; i++) {
            is("call " + i + " throws (1 NoSuchElementException, 2 IllegalArgumentException)",
                    thrown(calls[i]), which);
        }
        status("behind calls that threw", x, due);
        is("all stays behind calls that threw", state(x).equals(before), true);
    }

    static void end() {
        System.out.println(wrong == 0 ? "all answers are as due" : wrong + " answers are not as due");
        if (wrong != 0) {
            System.exit(1);
        }
    }
}
