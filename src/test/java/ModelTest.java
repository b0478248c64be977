import java.lang.reflect.InvocationTargetException;
import java.lang.reflect.Method;
import java.util.ArrayList;
import java.util.List;
import java.util.Random;

/** Drawn runs of calls, each answered by the class and by the slow model, which must agree. */
public final class ModelTest {
    private static final int CALLS = 400;
    /** What an object answers later is free. */
    private static final int MOST_CALLS = 512;
    /** A text takes at most so many calls. */
    private static final int CALLS_OF_TEXT = 38;
    private static final int READERS = 8;
    private static int wrong = 0;

    private final Random r;
    private final TemperDowns real = new TemperDowns();
    private final Model model = new Model();
    private final List<String> log = new ArrayList<>();
    private int calls = 0;

    private ModelTest(long seed) {
        r = new Random(seed);
    }

    private static Object answer(Object on, Method m, Object[] args) {
        try {
            return m.invoke(on, args);
        } catch (InvocationTargetException e) {
            return "throws " + e.getCause().getClass().getName();
        } catch (IllegalAccessException e) {
            throw new AssertionError(e);
        }
    }

    private boolean call(String name, Object... args) {
        Class<?>[] types = new Class<?>[args.length];
        for (int i = 0; i < args.length; i++) {
            types[i] = args[i] instanceof Boolean ? boolean.class : int.class;
        }
        Object got;
        Object due;
        calls++;
        try {
            Method there = Model.class.getDeclaredMethod(name, types);
            got = answer(real, TemperDowns.class.getMethod(name, types), args);
            due = answer(model, there, args);
        } catch (NoSuchMethodException e) {
            throw new AssertionError(e);
        }
        log.add(name + java.util.Arrays.toString(args) + " " + got);
        if (got == null ? due == null : got.equals(due)) {
            return true;
        }
        wrong++;
        System.out.println(String.join("\n", log.subList(Math.max(0, log.size() - 60), log.size())));
        System.out.println("due is " + due);
        return false;
    }

    private boolean feed(String text) {
        String cut = text.length() > 700 ? text.substring(0, 700) : text;
        log.add("text " + cut);
        for (int[] row : Text.rows(cut)) {
            if (!call("feed", row[0], row[1], row[2], row[3], row[4])) {
                return false;
            }
        }
        int n = r.nextInt(30) == 0 ? r.nextInt(800) - 50 : cut.length();
        return call("county", n) && call("fault") && call("count", 14);
    }

    private int ball() {
        return r.nextInt(12) == 0 ? r.nextInt(13) - 1 : r.nextInt(Math.max(1, model.now.balls.size()));
    }

    private int person() {
        return r.nextInt(12) == 0 ? r.nextInt(10) - 1 : r.nextInt(Math.max(1, model.now.people.size()));
    }

    private int cell() {
        return r.nextInt(12) == 0 ? r.nextInt(39) - 1 : r.nextInt(model.w * model.h);
    }

    private int what(int last) {
        return r.nextInt(20) == 0 ? r.nextInt(last + 4) - 1 : r.nextInt(last + 1);
    }

    private int days(int most) {
        return r.nextInt(12) == 0 ? r.nextInt(most + 4) - 1 : r.nextInt(most + 1);
    }

    private boolean act() {
        switch (r.nextInt(9)) {
            case 0: return call("days", r.nextInt(3) == 0 ? days(21) : 1 + r.nextInt(3));
            case 1: return call("tread", ball());
            case 2: return call("carry", ball(), cell());
            case 3: return call("guard", ball(), r.nextBoolean());
            case 4: return call("soothe", person(), r.nextInt(110) - 5);
            case 5: return call("see", ball(), days(21), r.nextBoolean());
            case 6: return r.nextInt(3) > 0 || call("forget");
            case 7: return r.nextInt(3) > 0 || call(r.nextBoolean() ? "image" : "restore");
            default: return r.nextInt(2) > 0 || call("undo");
        }
    }

    private boolean ask() {
        switch (r.nextInt(24)) {
            case 0: return call("then", ball(), days(60), what(2));
            case 1: return call("mood", person(), days(60), what(2));
            case 2: return call("off", ball());
            case 3: return call("first");
            case 4: return call("later", days(60), what(3));
            case 5: return call("toGuard", ball(), ball());
            case 6: return call("fire", ball(), what(1));
            case 7: return call("pram", cell(), cell(), what(1));
            case 8: return call("putBy", what(1));
            case 9: return call("put", person());
            case 10: return call("milder", what(2));
            case 11: return call("look", what(1));
            case 12: return call("boys", ball(), days(5), days(10));
            case 13: return call("game", person(), person(), what(1));
            case 14: return call("years", r.nextInt(), days(60), what(2));
            case 15: return call("cell", cell(), what(1));
            case 16: return call("when", person(), what(1));
            case 17: return call("ahead", days(60), what(1));
            case 18: return call("stays", person(), days(60));
            case 19: return call("count", what(16));
            case 20: return call("person", person(), what(6));
            case 21: return call("count", 10);
            default: return call("ball", ball(), what(7));
        }
    }

    private boolean run() {
        if (!feed(Text.county(r))) {
            return false;
        }
        for (int i = 0; i < CALLS && calls + CALLS_OF_TEXT <= MOST_CALLS; i++) {
            int kind = r.nextInt(100);
            boolean same = kind == 0 ? feed(r.nextBoolean() ? Text.county(r) : Text.spoilt(r))
                    : kind < 45 ? act() : ask();
            if (!same) {
                return false;
            }
        }
        return true;
    }

    private boolean readOnly() {
        while (calls + CALLS_OF_TEXT <= MOST_CALLS) {
            if (!feed(Text.spoilt(r))) {
                return false;
            }
        }
        return true;
    }

    public static void main(String[] args) {
        int runs = args.length > 0 ? Integer.parseInt(args[0]) : 40;
        long from = args.length > 1 ? Long.parseLong(args[1]) : 1;
        for (long seed = from; seed < from + runs && wrong < 3; seed++) {
            ModelTest test = new ModelTest(seed);
            if (!test.run()) {
                System.out.println("in run " + seed);
            }
            for (int reader = 0; reader < READERS; reader++) {
                if (!new ModelTest(~(seed * READERS + reader)).readOnly()) {
                    System.out.println("in texts " + seed);
                }
            }
        }
        System.out.println(wrong == 0 ? "model and class agree" : wrong + " answers are not as due");
        if (wrong != 0) {
            System.exit(1);
        }
    }
}
