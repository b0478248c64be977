/** Promise 14, its edges: 0 to 60 days, exceptions in their order. */
public final class Promise14Test {
    /** Put by on day 1, 4, 7 ..; gone off behind day 3, 6, 9 .. */
    private static final String ONE = "person 0 0 0;ball 0 99;rises 20;bursts age-2;";

    private static void zeroToSixtyDays() {
        TemperDowns x = Due.of("person 0 0 0;ball 0 99;rises (day=59)*20;");
        for (int what = 0; what <= 2; what++) {
            int w = what;
            Due.thrown(x, Due.IAE, () -> x.then(0, -1, w), () -> x.then(0, 61, w),
                    () -> x.then(0, Integer.MAX_VALUE, w), () -> x.then(0, Integer.MIN_VALUE, w));
        }
        int[] now = {0, 0, -1};
        int[] due = {20, 1, 0};
        for (int what = 0; what <= 2; what++) {
            Due.is("now, what " + what, x.then(0, 0, what), now[what]);
            Due.is("behind 59, what " + what, x.then(0, 59, what), now[what]);
            Due.is("behind 60, what " + what, x.then(0, 60, what), due[what]);
        }
    }

    private static void nowIsAsItIs() {
        TemperDowns x = Due.of(ONE);
        x.days(2);
        Due.is("holds", x.then(0, 0, 0), 20);
        Due.is("age", x.then(0, 0, 1), 2);
        Due.is("whose", x.then(0, 0, 2), 0);
    }

    private static void noSuchPuffball() {
        TemperDowns x = Due.of("ball 0 9;".repeat(9) + "ball 0 9 holds 7;");
        Due.is("the last", x.then(9, 0, 0), 7);
        Due.thrown(x, Due.NSE, () -> x.then(-1, 0, 0), () -> x.then(10, 0, 0), () -> x.then(10, 61, 0),
                () -> x.then(-1, -1, 2), () -> x.then(10, -1, 3));
    }

    private static void noSuchWhat() {
        TemperDowns x = Due.of(ONE);
        Due.thrown(x, Due.NSE, () -> x.then(0, 0, -1), () -> x.then(0, 60, 3), () -> x.then(0, 61, 3),
                () -> x.then(0, -1, -1), () -> x.then(0, 61, Integer.MAX_VALUE));
    }

    private static void nobodys() {
        TemperDowns x = Due.of("ball 0 9 holds 5;ball 3 9;");
        Due.is("held from the beginning", x.then(0, 9, 2), -1);
        Due.is("white", x.then(1, 9, 2), -1);
        Due.is("gone off", x.then(0, 10, 2), -1);
        Due.is("of age", x.then(0, 9, 1), 9);
        Due.is("of age 0", x.then(0, 10, 1), 0);
        Due.is("none held", x.then(0, 10, 0), 0);
    }

    private static void nothingChanges() {
        TemperDowns x = Due.of(ONE);
        String before = Due.state(x);
        x.then(0, 60, 0);
        Due.is("all stays", Due.state(x).equals(before), true);
    }

    public static void main(String[] args) {
        Due.runAll(Promise14Test.class);
    }
}
