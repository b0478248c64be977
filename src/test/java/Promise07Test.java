/** Promise 7, its edges: reach, what is set off, who hears. */
public final class Promise07Test {
    private static final String TEN = "ball 0 1;".repeat(9) + "ball 15 99 holds 99;";

    private static void noSuchPuffball() {
        TemperDowns x = Due.of(TEN);
        Due.is("the first", x.ball(0, 1), 1);
        Due.is("the last", x.ball(9, 1), 99);
        Due.thrown(x, Due.NSE, () -> x.ball(-1, 0), () -> x.ball(10, 0),
                () -> x.ball(Integer.MAX_VALUE, 0), () -> x.ball(Integer.MIN_VALUE, 0));
        TemperDowns y = Due.of("ball 0 1;");
        Due.thrown(y, Due.NSE, () -> y.ball(1, 0), () -> y.ball(-1, 7));
        TemperDowns z = Due.of("person 0 0 0;");
        Due.thrown(z, Due.NSE, () -> z.ball(0, 0), () -> z.ball(0, 7));
    }

    private static void noSuchWhat() {
        TemperDowns x = Due.of(TEN);
        int[] due = {15, 99, 99, 0, -1, 0, 1023 - 511, 0};
        for (int what = 0; what < due.length; what++) {
            Due.is("what " + what, x.ball(9, what), due[what]);
        }
        Due.thrown(x, Due.NSE, () -> x.ball(0, -1), () -> x.ball(0, 8), () -> x.ball(10, 8),
                () -> x.ball(9, Integer.MAX_VALUE), () -> x.ball(9, Integer.MIN_VALUE));
    }

    private static void aTenthCutDown() {
        int[] holds = {1, 9, 10, 19, 20, 29, 30, 49, 50, 99};
        int[] others = {0, 0, 1, 1, 2, 2, 3, 4, 5, 5};
        for (int i = 0; i < holds.length; i++) {
            TemperDowns x = Due.of("downs 6 1;ball 0 99 holds " + holds[i] + ";ball 1 1 holds 1;"
                    + "ball 2 1 holds 1;ball 3 1 holds 1;ball 4 1 holds 1;ball 5 1 holds 1;"
                    + "person 0 0 0;person 1 0 0;person 2 0 0;person 3 0 0;person 4 0 0;person 5 0 0;");
            Due.is("by " + holds[i], x.ball(0, 6), (2 << others[i]) - 1);
            Due.is("heard by " + holds[i], x.ball(0, 7), (2 << others[i]) - 1);
        }
    }

    private static void reachByBothSides() {
        String text = "downs 6 6;ball 0 99 holds HELD;ball 35 1 holds 1;person 35 0 0;person 34 0 0;";
        TemperDowns x = Due.of(text.replace("HELD", "99"));
        Due.is("10 is farther than 9", x.ball(0, 6), 1);
        Due.is("9 is not", x.ball(0, 7), 2);
        Due.is("8", Due.of(text.replace("HELD", "89")).ball(0, 7), 0);
    }

    private static void byAWhiteOne() {
        TemperDowns x = Due.of("person 0 0 0;ball 0 9;ball 0 9 holds 5;");
        Due.is("nothing", x.ball(0, 6), 0);
        Due.is("nobody hears", x.ball(0, 7), 0);
        x.guard(0, true);
        Due.is("guarded or not", x.ball(0, 6), 0);
    }

    private static void whiteOnesAreNot() {
        TemperDowns x = Due.of("ball 0 9 holds 5;ball 0 9;ball 0 9 holds 1;");
        Due.is("in one cell", x.ball(0, 6), 1 + 4);
    }

    private static void guardedOrNot() {
        TemperDowns x = Due.of("downs 3 1;person 2 0 0;ball 0 99 holds 10;ball 1 99 holds 10;ball 2 9 holds 9;");
        Due.is("through the second", x.ball(0, 6), 7);
        Due.is("who hears the third", x.ball(0, 7), 1);
        x.guard(0, true);
        Due.is("a guarded one sets off", x.ball(0, 6), 7);
        Due.is("but isn't", x.ball(1, 6), 6);
        x.guard(1, true);
        Due.is("nor is the second", x.ball(0, 6), 1);
        Due.is("nobody hears then", x.ball(0, 7), 0);
    }

    private static void aChainOfTen() {
        StringBuilder text = new StringBuilder("downs 6 6;person 35 0 0;");
        int[] cells = {35, 34, 33, 32, 31, 30, 24, 18, 12, 6};
        for (int cell : cells) {
            text.append("ball ").append(cell).append(" 99 holds 10;");
        }
        TemperDowns x = Due.of(text.toString());
        Due.is("from the first", x.ball(0, 6), 1023);
        Due.is("from the last", x.ball(9, 6), 1023);
        Due.is("who hears", x.ball(9, 7), 1);
        x.guard(1, true);
        Due.is("the other side of a guard", x.ball(9, 6), 1023 - 3);
        Due.is("nobody hears", x.ball(9, 7), 0);
        Due.is("from the guarded one both sides", x.ball(1, 6), 1023);
    }

    private static void sevenHear() {
        TemperDowns x = Due.of("person 15 0 0;".repeat(7) + "ball 15 9 holds 9;");
        Due.is("all of them", x.ball(0, 7), 127);
    }

    private static void nobodys() {
        TemperDowns x = Due.of("person 0 0 20;ball 1 9 holds 9;ball 0 30;");
        Due.is("held from the beginning", x.ball(0, 4), -1);
        Due.is("white", x.ball(1, 4), -1);
        x.days(1);
        Due.is("filled", x.ball(1, 4), 0);
        x.tread(1);
        Due.is("gone off", x.ball(1, 4), -1);
        Due.is("of age 0", x.ball(1, 3), 0);
    }

    public static void main(String[] args) {
        Due.runAll(Promise07Test.class);
    }
}
