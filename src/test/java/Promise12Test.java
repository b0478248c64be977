/** Promise 12, its edges: tempers 0 to 99. */
public final class Promise12Test {
    private static void from0To99() {
        TemperDowns x = Due.of("person 0 0 15;person 0 0 7;");
        Due.refused(x, 1, () -> x.soothe(0, -1), () -> x.soothe(0, 100),
                () -> x.soothe(1, Integer.MAX_VALUE), () -> x.soothe(1, Integer.MIN_VALUE));
        Due.is("no act", x.undo(), -1);
        Due.is("99", x.soothe(0, 99), 15);
        Due.is("it is", x.person(0, 2), 99);
        Due.is("0", x.soothe(0, 0), 99);
        Due.is("it is", x.person(0, 2), 0);
        Due.is("the other's stays", x.person(1, 2), 7);
        Due.refused(x, 1, () -> x.soothe(0, 100));
        Due.is("undone", x.undo(), 1);
        Due.is("99 again", x.person(0, 2), 99);
    }

    /** It is refused by being not 0 to 99 alone. */
    private static void asItIs() {
        TemperDowns x = Due.of("person 0 0 15;");
        Due.is("temper as it was", x.soothe(0, 15), 15);
        Due.is("an act", x.count(11), 1);
        Due.is("not refused", x.count(15), 0);
    }

    private static void twentyAndMoreStaysUntilADay() {
        TemperDowns x = Due.of("person 0 0 15;ball 0 99;");
        x.soothe(0, 50);
        Due.is("not put by", x.count(5), 1);
        Due.is("no shout", x.count(9), 0);
    }

    private static void noSuchPerson() {
        TemperDowns x = Due.of("person 0 0 15;".repeat(7));
        Due.thrown(x, Due.NSE, () -> x.soothe(-1, 0), () -> x.soothe(7, 0), () -> x.soothe(7, 100),
                () -> x.soothe(-1, -1), () -> x.soothe(Integer.MAX_VALUE, 0));
        Due.is("the last", x.soothe(6, 1), 15);
        TemperDowns y = Due.of("ball 0 9;");
        Due.thrown(y, Due.NSE, () -> y.soothe(0, 0), () -> y.soothe(0, 100));
    }

    public static void main(String[] args) {
        Due.runAll(Promise12Test.class);
    }
}
