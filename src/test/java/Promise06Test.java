/** Promise 6, its edges, and to whom one would go out. */
public final class Promise06Test {
    private static final String SEVEN = "person 0 0 1;".repeat(6) + "person 15 9 99;";

    private static void noSuchPerson() {
        TemperDowns x = Due.of(SEVEN);
        Due.is("the first", x.person(0, 2), 1);
        Due.is("the last", x.person(6, 2), 99);
        Due.thrown(x, Due.NSE, () -> x.person(-1, 0), () -> x.person(7, 0),
                () -> x.person(Integer.MAX_VALUE, 0), () -> x.person(Integer.MIN_VALUE, 0));
        TemperDowns y = Due.of("person 0 0 0;");
        Due.thrown(y, Due.NSE, () -> y.person(1, 0), () -> y.person(-1, 6));
        TemperDowns z = Due.of("ball 0 1;");
        Due.thrown(z, Due.NSE, () -> z.person(0, 0), () -> z.person(0, 6));
    }

    private static void noSuchWhat() {
        TemperDowns x = Due.of(SEVEN);
        Due.is("home", x.person(6, 0), 15);
        Due.is("mild", x.person(6, 1), 9);
        Due.is("nowhere to go", x.person(6, 6), -1);
        Due.thrown(x, Due.NSE, () -> x.person(0, -1), () -> x.person(0, 7), () -> x.person(7, 7),
                () -> x.person(6, Integer.MAX_VALUE), () -> x.person(6, Integer.MIN_VALUE));
    }

    private static void shoutedAtTwenty() {
        TemperDowns x = Due.of("person 0 0 19;person 0 0 20;person 0 0 21;person 0 0 99;rises 0;");
        x.days(1);
        int[] temper = {19, 10, 10, 49};
        for (int person = 0; person < 4; person++) {
            Due.is("temper of " + person, x.person(person, 2), temper[person]);
            Due.is("shouted by " + person, x.person(person, 3), person == 0 ? 0 : 1);
        }
    }

    private static void heardAtMost9999() {
        TemperDowns x = Due.of("person 0 0 0;".repeat(7) + "ball 0 99;".repeat(7)
                + "rises (0<temper)*20+(day=0)*20;bursts 1;");
        x.days(8);
        for (int i = 0; i < 71; i++) {
            x.days(20);
        }
        Due.is("heard", x.person(0, 4), 7 * 1428);
        x.image();
        x.days(1);
        Due.is("seven more are too many", x.person(0, 4), 9999);
        Due.is("of each", x.person(6, 4), 9999);
        x.days(1);
        Due.is("it stays", x.person(0, 4), 9999);
        Due.is("temper is more for each even so", x.person(0, 2), 35);
        x.restore();
        for (int person = 3; person < 7; person++) {
            x.soothe(person, 0);
        }
        Due.is("three more are just as many", x.mood(0, 1, 2), 9999);
        x.soothe(2, 0);
        Due.is("two more are fewer", x.mood(0, 1, 2), 9998);
    }

    private static void noneIsOnesOwn() {
        TemperDowns x = Due.of("person 0 0 5;ball 0 9 holds 5;ball 0 9;");
        Due.is("held from the beginning, white", x.person(0, 5), 0);
    }

    private static void allTenAreOnesOwn() {
        TemperDowns x = Due.of("person 0 0 0;person 0 0 0;" + "ball 0 99;".repeat(10) + "bursts 0;"
                + "rises mild;");
        for (int ball = 0; ball < 10; ball++) {
            x.soothe(1, 20);
            x.days(1);
            Due.is("up to " + ball, x.person(1, 5), (2 << ball) - 1);
        }
        Due.is("none of the other's", x.person(0, 5), 0);
        x.tread(0);
        Due.is("gone off, nobody's", x.person(1, 5), 0);
    }

    private static void toGoOutSizeAsTemper() {
        TemperDowns x = Due.of("downs 3 1;person 0 0 9;ball 2 9;ball 0 8;ball 1 10;");
        Due.is("too small, then the nearest", x.person(0, 6), 2);
        x.soothe(0, 8);
        Due.is("just large enough", x.person(0, 6), 1);
        x.carry(2, 2);
        x.soothe(0, 9);
        Due.is("of like ones the least", x.person(0, 6), 0);
        x.soothe(0, 10);
        Due.is("the largest", x.person(0, 6), 2);
        x.soothe(0, 11);
        Due.is("none", x.person(0, 6), -1);
    }

    private static void toGoOutWithTemperNothing() {
        TemperDowns x = Due.of("person 0 0 0;ball 15 1;ball 0 99 holds 1;");
        Due.is("any white one will do", x.person(0, 6), 0);
        TemperDowns y = Due.of("person 0 0 0;ball 0 99 holds 1;");
        Due.is("not one that holds something", y.person(0, 6), -1);
        TemperDowns z = Due.of("person 0 0 0;");
        Due.is("no puffballs", z.person(0, 6), -1);
    }

    private static void toGoOutGuardedOrNot() {
        TemperDowns x = Due.of("downs 2 1;person 0 0 5;ball 0 9;ball 1 9;");
        x.guard(0, true);
        Due.is("a guarded one", x.person(0, 6), 0);
    }

    private static void farByBothSides() {
        TemperDowns x = Due.of("downs 6 6;person 0 0 5;ball 35 9;ball 21 9;ball 5 9;ball 30 9;");
        Due.is("5 by x, or by y", x.person(0, 6), 2);
        x.carry(2, 11);
        Due.is("5 by y", x.person(0, 6), 3);
        x.carry(3, 35);
        Due.is("3 and 3, or 5 and 1", x.person(0, 6), 1);
    }

    public static void main(String[] args) {
        Due.runAll(Promise06Test.class);
    }
}
