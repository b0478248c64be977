/** Promise 28, its edges: 1 to 5 days, 0 to 10 tenths, nothing to tread on. */
public final class Promise28Test {
    private static void oneToFiveDays() {
        TemperDowns x = Due.of("ball 0 9 holds 5;");
        Due.thrown(x, Due.IAE, () -> x.boys(0, 0, 5), () -> x.boys(0, 6, 5), () -> x.boys(0, -1, 5),
                () -> x.boys(0, Integer.MAX_VALUE, 5), () -> x.boys(0, Integer.MIN_VALUE, 5));
        Due.is("one", x.boys(0, 1, 5), 5);
        Due.is("five", x.boys(0, 5, 5), 100000 - 3125);
    }

    private static void zeroToTenTenths() {
        TemperDowns x = Due.of("ball 0 9 holds 5;");
        Due.thrown(x, Due.IAE, () -> x.boys(0, 1, -1), () -> x.boys(0, 1, 11), () -> x.boys(0, 0, 11),
                () -> x.boys(0, 1, Integer.MAX_VALUE), () -> x.boys(0, 1, Integer.MIN_VALUE));
        int power = 1;
        for (int days = 1; days <= 5; days++) {
            power *= 10;
            Due.is("never", x.boys(0, days, 0), 0);
            Due.is("surely", x.boys(0, days, 10), power);
        }
        Due.is("1 tenth", x.boys(0, 1, 1), 1);
        Due.is("9 tenths", x.boys(0, 1, 9), 9);
    }

    private static void noSuchPuffballAhead() {
        TemperDowns x = Due.of("ball 0 9;".repeat(9) + "ball 0 9 holds 5;");
        Due.is("the last", x.boys(9, 1, 3), 3);
        Due.thrown(x, Due.NSE, () -> x.boys(-1, 1, 1), () -> x.boys(10, 1, 1), () -> x.boys(10, 0, 1),
                () -> x.boys(10, 1, 11), () -> x.boys(-1, 6, -1));
        TemperDowns y = new TemperDowns();
        Due.thrown(y, Due.NSE, () -> y.boys(0, 1, 1), () -> y.boys(0, 0, 11));
    }

    private static void nothingToTreadOn() {
        TemperDowns x = Due.of("ball 0 9;ball 0 9;");
        Due.is("white", x.boys(0, 5, 7), 100000);
        Due.is("white, too", x.boys(1, 1, 10), 10);
        TemperDowns y = Due.of("ball 0 9 holds 5;");
        y.guard(0, true);
        Due.is("guarded", y.boys(0, 5, 10), 0);
    }

    private static void whichHoldsMost() {
        TemperDowns x = Due.of("downs 3 1;ball 0 9 holds 5;ball 1 9 holds 6;ball 2 9 holds 6;");
        Due.is("of like ones the least", x.boys(1, 1, 4), 4);
        Due.is("not the other", x.boys(2, 1, 4), 0);
        Due.is("the other then", x.boys(2, 2, 4), 16);
        Due.is("the least behind three", x.boys(0, 3, 4), 64);
        Due.is("not behind two", x.boys(0, 2, 10), 0);
        x.guard(1, true);
        Due.is("but guarded ones", x.boys(2, 1, 4), 4);
        Due.is("never this one", x.boys(1, 5, 10), 0);
    }

    private static void theFirstHoldsMost() {
        TemperDowns x = Due.of("person 0 0 0;".repeat(7) + "ball 0 9 holds 6;ball 1 9 holds 5;");
        Due.is("the first", x.boys(0, 1, 4), 4);
        Due.is("not the other", x.boys(1, 1, 4), 0);
    }

    private static void setOffToo() {
        TemperDowns x = Due.of("downs 2 1;ball 0 9 holds 5;ball 1 99 holds 10;");
        Due.is("by what is trodden", x.boys(0, 1, 3), 3);
    }

    private static void aheadOfEachDay() {
        TemperDowns x = Due.of("person 15 0 0;ball 15 99 holds 9;rises 20;bursts 0;");
        Due.is("filled again on the day", x.boys(0, 1, 10), 0);
        TemperDowns y = Due.of("ball 0 9 holds 5;bursts age=5;");
        Due.is("by itself on the fifth", y.boys(0, 5, 0), 100000);
        Due.is("not on the fourth", y.boys(0, 4, 0), 0);
    }

    private static void nothingChanges() {
        TemperDowns x = Due.of("person 0 0 0;ball 0 99 holds 5;");
        String before = Due.state(x);
        x.boys(0, 5, 5);
        Due.is("all stays", Due.state(x).equals(before), true);
    }

    public static void main(String[] args) {
        Due.runAll(Promise28Test.class);
    }
}
