/** Promise 11, its edges: what is so already. */
public final class Promise11Test {
    private static void itIsSoAlready() {
        TemperDowns x = Due.of("ball 0 9 holds 5;ball 0 9;");
        Due.refused(x, 1, () -> x.guard(0, false), () -> x.guard(1, false));
        Due.is("no act", x.undo(), -1);
        Due.is("guarded", x.guard(0, true), true);
        Due.refused(x, 1, () -> x.guard(0, true), () -> x.guard(1, false));
        Due.is("a white one", x.guard(1, true), true);
        Due.is("no more", x.guard(0, false), true);
        Due.refused(x, 1, () -> x.guard(0, false), () -> x.guard(1, true));
        Due.is("acts", x.count(11), 3);
        Due.is("undone", x.undo(), 2);
        Due.is("both", x.count(6), 3);
    }

    private static void noSuchPuffball() {
        TemperDowns x = Due.of("ball 0 9;".repeat(10));
        Due.thrown(x, Due.NSE, () -> x.guard(-1, true), () -> x.guard(10, true), () -> x.guard(-1, false),
                () -> x.guard(10, false), () -> x.guard(32, false), () -> x.guard(Integer.MIN_VALUE, true));
        Due.is("the last", x.guard(9, true), true);
        Due.is("its bit", x.count(6), 512);
        Due.is("the first", x.guard(0, true), true);
        Due.is("both bits", x.count(6), 513);
    }

    private static void guardedThroughAll() {
        TemperDowns x = Due.of("person 0 0 10;ball 0 30;bursts age=2;");
        x.guard(0, true);
        x.days(1);
        Due.is("filled though guarded", x.ball(0, 2), 20);
        x.days(1);
        Due.is("burst though guarded", x.ball(0, 2), 0);
        Due.is("guarded as before", x.ball(0, 5), 1);
    }

    public static void main(String[] args) {
        Due.runAll(Promise11Test.class);
    }
}
