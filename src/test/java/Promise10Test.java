/** Promise 10, its edges: where it is already, cells and puffballs that there aren't. */
public final class Promise10Test {
    private static void itIsThere() {
        TemperDowns x = Due.of("ball 3 9 holds 5;ball 4 9;");
        x.guard(0, true);
        Due.refused(x, 1, () -> x.carry(0, 3), () -> x.carry(1, 4));
        Due.is("undone is what was done", x.undo(), 0);
        Due.is("carried", x.carry(0, 4), 3);
        Due.refused(x, 1, () -> x.carry(0, 4));
    }

    private static void noSuchCell() {
        TemperDowns x = Due.of("downs 3 2;ball 3 9 holds 5;");
        Due.thrown(x, Due.NSE, () -> x.carry(0, -1), () -> x.carry(0, 6),
                () -> x.carry(0, Integer.MAX_VALUE), () -> x.carry(0, Integer.MIN_VALUE));
        Due.is("the last", x.carry(0, 5), 3);
        Due.is("the first", x.carry(0, 0), 5);
        TemperDowns y = Due.of("downs 1 1;ball 0 9;");
        Due.thrown(y, Due.NSE, () -> y.carry(0, 1));
        Due.refused(y, 1, () -> y.carry(0, 0));
        TemperDowns z = Due.of("downs 6 6;ball 0 9;");
        Due.thrown(z, Due.NSE, () -> z.carry(0, 36));
        Due.is("of 36 the last", z.carry(0, 35), 0);
    }

    private static void noSuchPuffball() {
        TemperDowns x = Due.of("ball 0 9;".repeat(10));
        Due.thrown(x, Due.NSE, () -> x.carry(-1, 0), () -> x.carry(10, 0), () -> x.carry(10, 1),
                () -> x.carry(10, 16), () -> x.carry(Integer.MAX_VALUE, 0));
        Due.is("the last", x.carry(9, 15), 0);
        TemperDowns y = new TemperDowns();
        Due.thrown(y, Due.NSE, () -> y.carry(0, 0), () -> y.carry(0, 1));
    }

    private static void withWhatItHolds() {
        TemperDowns x = Due.of("person 0 0 10;ball 0 99;ball 1 99 holds 7;bursts 0;");
        x.days(2);
        x.guard(0, true);
        Due.is("carried", x.carry(0, 1), 0);
        Due.is("cell", x.ball(0, 0), 1);
        Due.is("holds", x.ball(0, 2), 20);
        Due.is("age", x.ball(0, 3), 2);
        Due.is("whose", x.ball(0, 4), 0);
        Due.is("guarded", x.ball(0, 5), 1);
        Due.is("several in one", x.ball(0, 6), 3);
        Due.is("undone", x.undo(), 2);
        Due.is("where it was", x.ball(0, 0), 0);
    }

    public static void main(String[] args) {
        Due.runAll(Promise10Test.class);
    }
}
