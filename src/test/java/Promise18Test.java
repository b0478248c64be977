/** Promise 18, its edges: 0 to 60 days, exceptions in their order, nobody, all white. */
public final class Promise18Test {
    private static void zeroToSixtyDays() {
        TemperDowns x = Due.of("person 0 0 4;person 3 0 5;ball 0 9 holds 5;rises 0;bursts day=59;");
        for (int what = 0; what <= 3; what++) {
            int w = what;
            Due.thrown(x, Due.IAE, () -> x.later(-1, w), () -> x.later(61, w),
                    () -> x.later(Integer.MAX_VALUE, w), () -> x.later(Integer.MIN_VALUE, w));
        }
        int[] now = {0, 5, 0, 1};
        int[] due = {1, 0, 1, 0};
        for (int what = 0; what <= 3; what++) {
            Due.is("now, what " + what, x.later(0, what), now[what]);
            Due.is("behind 59, what " + what, x.later(59, what), now[what]);
            Due.is("behind 60, what " + what, x.later(60, what), due[what]);
        }
    }

    private static void noSuchWhat() {
        TemperDowns x = Due.of("person 0 0 4;ball 0 9 holds 5;");
        Due.thrown(x, Due.NSE, () -> x.later(0, -1), () -> x.later(60, 4), () -> x.later(61, 4),
                () -> x.later(-1, -1), () -> x.later(-1, Integer.MAX_VALUE));
    }

    private static void often() {
        TemperDowns x = Due.of("person 0 0 0;ball 0 99;rises 20;bursts 1;");
        Due.is("each day", x.later(60, 0), 60);
        Due.is("in none", x.later(0, 0), 0);
        Due.is("all ten at once", Due.of("ball 0 9 holds 1;".repeat(10)).later(10, 0), 10);
        Due.is("not yet", Due.of("ball 0 9 holds 1;".repeat(10)).later(9, 0), 0);
        TemperDowns y = Due.of("downs 2 1;ball 0 9 holds 4;ball 1 99 holds 10;bursts holds=10;");
        Due.is("set off or not", y.later(1, 0), 2);
        y.guard(0, true);
        Due.is("but guarded", y.later(1, 0), 1);
    }

    private static void heldAndWhite() {
        TemperDowns x = Due.of("ball 0 99 holds 99;".repeat(10) + "bursts 0;");
        Due.is("all hold", x.later(60, 1), 990);
        Due.is("none is white", x.later(60, 2), 0);
        TemperDowns y = Due.of("ball 0 99;".repeat(10));
        Due.is("nothing held", y.later(60, 1), 0);
        Due.is("all are white", y.later(60, 2), 1023);
    }

    private static void crossest() {
        Due.is("nobody", Due.of("ball 0 9;").later(0, 3), -1);
        Due.is("nobody ever", Due.of("ball 0 9;").later(60, 3), -1);
        Due.is("with temper 0", Due.of("person 0 0 0;person 0 0 0;").later(0, 3), 0);
        Due.is("the last", Due.of("person 0 0 98;".repeat(6) + "person 0 0 99;").later(0, 3), 6);
        Due.is("of like ones the least", Due.of("person 0 0 1;person 0 0 9;person 0 0 9;").later(0, 3), 1);
        Due.is("then, not now", Due.of("person 0 9 7;person 0 0 7;").later(1, 3), 1);
    }

    public static void main(String[] args) {
        Due.runAll(Promise18Test.class);
    }
}
