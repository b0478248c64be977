/** Promise 31, its edges: cells that there are, none near, just within reach. */
public final class Promise31Test {
    private static void noSuchCell() {
        TemperDowns x = Due.of("downs 3 2;ball 5 9 holds 5;");
        Due.is("the first", x.cell(0, 0), 0);
        Due.is("the last", x.cell(5, 0), 1);
        Due.thrown(x, Due.NSE, () -> x.cell(-1, 0), () -> x.cell(6, 0), () -> x.cell(6, 1),
                () -> x.cell(6, 2), () -> x.cell(Integer.MAX_VALUE, 0), () -> x.cell(Integer.MIN_VALUE, 1));
        TemperDowns y = Due.of("downs 6 6;ball 35 9;");
        Due.is("of 36 the last", y.cell(35, 1), 0);
        Due.thrown(y, Due.NSE, () -> y.cell(36, 1));
        TemperDowns z = Due.of("downs 1 1;ball 0 9 holds 1;");
        Due.is("the only one", z.cell(0, 0), 1);
        Due.thrown(z, Due.NSE, () -> z.cell(1, 0));
    }

    private static void noSuchWhat() {
        TemperDowns x = Due.of("ball 5 9 holds 5;");
        Due.thrown(x, Due.NSE, () -> x.cell(0, -1), () -> x.cell(0, 2), () -> x.cell(0, Integer.MAX_VALUE));
    }

    private static void overJustWithinReach() {
        int[] holds = {9, 10, 19, 20, 49, 50, 99};
        int[] farthest = {0, 1, 1, 2, 4, 5, 5};
        for (int i = 0; i < holds.length; i++) {
            TemperDowns x = Due.of("downs 6 1;ball 0 99 holds " + holds[i] + ";");
            for (int cell = 0; cell < 6; cell++) {
                Due.is(holds[i] + " over " + cell, x.cell(cell, 0), cell <= farthest[i] ? 1 : 0);
            }
        }
        TemperDowns y = Due.of("downs 6 6;ball 0 99 holds 99;");
        Due.is("9 far", y.cell(34, 0), 1);
        Due.is("10 far", y.cell(35, 0), 0);
    }

    private static void overByNoneAndByTen() {
        Due.is("none", new TemperDowns().cell(0, 0), 0);
        Due.is("white ones", Due.of("ball 0 9;").cell(0, 0), 0);
        TemperDowns x = Due.of("ball 0 9 holds 1;".repeat(10));
        Due.is("ten", x.cell(0, 0), 1023);
        x.guard(9, true);
        Due.is("guarded or not", x.cell(0, 0), 1023);
        Due.is("not beside", x.cell(1, 0), 0);
        x.days(5);
        Due.is("of any age", x.cell(0, 0), 1023);
    }

    private static void nearNone() {
        Due.is("none", new TemperDowns().cell(15, 1), -1);
        Due.is("nobody helps", Due.of("person 0 0 0;").cell(0, 1), -1);
    }

    private static void nearWhiteOrNot() {
        TemperDowns x = Due.of("downs 6 1;ball 0 9 holds 5;ball 3 9;ball 5 9 holds 5;");
        int[] due = {0, 0, 1, 1, 1, 2};
        for (int cell = 0; cell < 6; cell++) {
            Due.is("near " + cell, x.cell(cell, 1), due[cell]);
        }
        x.guard(1, true);
        Due.is("guarded or not", x.cell(3, 1), 1);
    }

    private static void nearOfLikeOnesTheLeast() {
        TemperDowns x = Due.of("downs 3 3;ball 8 9;ball 5 9;ball 7 9;ball 3 9;ball 1 9;");
        Due.is("four beside", x.cell(4, 1), 1);
        Due.is("ten in one", Due.of("ball 9 9;".repeat(10)).cell(0, 1), 0);
        Due.is("the last alone near", Due.of("ball 0 9;".repeat(9) + "ball 15 9;").cell(14, 1), 9);
    }

    public static void main(String[] args) {
        Due.runAll(Promise31Test.class);
    }
}
