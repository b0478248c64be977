/** Promise 9, its edges: what may be trodden, what goes off with it, who hears. */
public final class Promise09Test {
    private static void noSuchPuffball() {
        TemperDowns x = Due.of("ball 0 9 holds 5;".repeat(10));
        Due.thrown(x, Due.NSE, () -> x.tread(-1), () -> x.tread(10), () -> x.tread(Integer.MAX_VALUE),
                () -> x.tread(Integer.MIN_VALUE));
        Due.is("the last", x.tread(9), 10);
        TemperDowns y = Due.of("ball 0 9 holds 5;");
        Due.thrown(y, Due.NSE, () -> y.tread(1));
        Due.is("the first", y.tread(0), 1);
    }

    private static void whiteOrGuarded() {
        TemperDowns x = Due.of("person 0 0 0;ball 0 9;ball 0 9 holds 5;ball 0 9;");
        x.guard(1, true);
        x.guard(2, true);
        Due.refused(x, 1, () -> x.tread(0), () -> x.tread(1), () -> x.tread(2));
        Due.is("undone is what was done", x.undo(), 1);
        Due.is("the guard of the last", x.count(6), 2);
        x.guard(1, false);
        Due.is("no more", x.tread(1), 1);
        Due.refused(x, 1, () -> x.tread(1));
    }

    private static void allTen() {
        TemperDowns x = Due.of("person 0 0 0;person 15 0 0;" + "ball 0 9 holds 1;".repeat(10));
        Due.is("all go off", x.tread(4), 10);
        Due.is("all are white", x.count(5), 1023);
        Due.is("heard ten", x.person(0, 4), 10);
        Due.is("temper", x.person(0, 2), 50);
        Due.is("the other heard none", x.person(1, 4), 0);
        Due.is("nor is temper more", x.person(1, 2), 0);
        Due.is("one act", x.count(11), 1);
    }

    private static void temperIs99AtMost() {
        int[] temper = {93, 94, 95, 99};
        int[] due = {98, 99, 99, 99};
        for (int i = 0; i < temper.length; i++) {
            TemperDowns x = Due.of("person 0 0 " + temper[i] + ";ball 0 9 holds 1;");
            x.tread(0);
            Due.is("of " + temper[i], x.person(0, 2), due[i]);
            Due.is("heard", x.person(0, 4), 1);
            Due.is("no shout", x.person(0, 3), 0);
        }
        TemperDowns x = Due.of("person 0 0 60;" + "ball 0 9 holds 1;".repeat(10));
        x.tread(0);
        Due.is("of many", x.person(0, 2), 99);
    }

    private static void setOffOnlyWithinReach() {
        TemperDowns x = Due.of("downs 3 1;ball 0 99 holds 19;ball 1 9 holds 9;ball 2 9 holds 9;");
        Due.is("a tenth, cut down", x.tread(0), 2);
        Due.is("the third holds on", x.ball(2, 2), 9);
        TemperDowns y = Due.of("downs 3 1;ball 0 99 holds 20;ball 1 9 holds 9;ball 2 9 holds 9;");
        Due.is("two tenths", y.tread(0), 3);
        TemperDowns z = Due.of("downs 3 1;ball 0 9 holds 9;ball 1 99 holds 99;");
        Due.is("by its own reach, not the other's", z.tread(0), 1);
    }

    private static void guardedOnesArentSetOff() {
        TemperDowns x = Due.of("downs 3 1;ball 0 99 holds 10;ball 1 99 holds 10;ball 2 9 holds 9;");
        x.guard(1, true);
        Due.is("alone", x.tread(0), 1);
        Due.is("it holds", x.ball(1, 2), 10);
        Due.is("guarded as before", x.count(6), 2);
    }

    private static void behindItsGoingOff() {
        TemperDowns x = Due.of("person 0 0 10;ball 0 99;");
        x.days(3);
        Due.is("age", x.ball(0, 3), 3);
        Due.is("trodden", x.tread(0), 1);
        Due.is("holds", x.ball(0, 2), 0);
        Due.is("age", x.ball(0, 3), 0);
        Due.is("whose", x.ball(0, 4), -1);
        Due.is("undone", x.undo(), 1);
        Due.is("holds", x.ball(0, 2), 20);
        Due.is("age", x.ball(0, 3), 3);
        Due.is("whose", x.ball(0, 4), 0);
        Due.is("heard", x.person(0, 4), 0);
    }

    public static void main(String[] args) {
        Due.runAll(Promise09Test.class);
    }
}
