/** Promise 20, its edges: ties, white ones, nobody, no better cell. */
public final class Promise20Test {
    private static void fired(String text, int cell, int many) {
        TemperDowns x = Due.of(text);
        Due.is("cell of " + text, x.fire(0, 0), cell);
        Due.is("how many of " + text, x.fire(0, 1), many);
    }

    private static void noSuchPuffball() {
        TemperDowns x = Due.of("ball 0 9;".repeat(9) + "ball 7 9 holds 5;");
        Due.is("the last", x.fire(9, 0), 7);
        Due.thrown(x, Due.NSE, () -> x.fire(-1, 0), () -> x.fire(10, 0), () -> x.fire(10, 2),
                () -> x.fire(Integer.MAX_VALUE, 1));
    }

    private static void noSuchWhat() {
        TemperDowns x = Due.of("ball 7 9 holds 5;");
        Due.thrown(x, Due.NSE, () -> x.fire(0, -1), () -> x.fire(0, 2), () -> x.fire(0, Integer.MAX_VALUE));
    }

    private static void nobody() {
        fired("ball 7 99 holds 99;", 7, 0);
        fired("ball 7 99;", 7, 0);
    }

    private static void everywhereTheSame() {
        fired("downs 1 1;" + "person 0 0 0;".repeat(7) + "ball 0 9 holds 1;", 0, 7);
        fired("downs 6 1;person 0 0 0;person 5 0 0;ball 3 99 holds 50;", 3, 2);
    }

    private static void reachCutDown() {
        fired("downs 3 1;person 0 0 0;ball 1 99 holds 9;", 1, 0);
        fired("downs 3 1;person 0 0 0;ball 1 99 holds 10;", 2, 0);
        fired("downs 3 1;person 0 0 0;ball 1 99 holds 19;", 2, 0);
        fired("downs 3 1;person 0 0 0;ball 1 99 holds 20;", 1, 1);
    }

    private static void aWhiteOne() {
        fired("downs 3 1;person 1 0 0;ball 1 9;", 0, 0);
        fired("downs 3 1;person 1 0 0;ball 2 9;", 2, 0);
        fired("downs 2 1;person 0 0 0;person 1 0 0;person 1 0 0;ball 1 9;", 0, 1);
    }

    private static void leastFarThenLeast() {
        fired("downs 6 1;person 3 0 0;person 4 0 0;ball 4 9 holds 5;", 5, 0);
        fired("downs 6 1;person 2 0 0;ball 2 9 holds 5;", 1, 0);
        fired("downs 6 1;person 2 0 0;person 1 0 0;ball 2 9 holds 5;", 3, 0);
        fired("downs 3 3;person 4 0 0;ball 4 9 holds 5;", 1, 0);
        fired("downs 6 6;person 35 0 0;person 34 0 0;person 29 0 0;ball 35 9 holds 9;", 23, 0);
    }

    private static void fewestAheadOfFar() {
        fired("downs 6 1;person 0 0 0;person 1 0 0;person 2 0 0;person 3 0 0;person 4 0 0;"
                + "ball 0 9 holds 5;", 5, 0);
        fired("downs 6 1;person 0 0 0;person 0 0 0;person 1 0 0;person 2 0 0;person 3 0 0;person 4 0 0;"
                + "person 5 0 0;ball 0 9 holds 5;", 1, 1);
    }

    private static void goneOffAlone() {
        TemperDowns x = Due.of("downs 4 1;person 3 0 0;ball 0 9 holds 5;ball 0 99 holds 30;");
        Due.is("others don't count", x.fire(0, 1), 0);
        Due.is("where it is", x.fire(0, 0), 0);
        x.guard(0, true);
        Due.is("guarded or not", x.fire(0, 0), 0);
        Due.is("nothing is done", x.count(11), 1);
    }

    public static void main(String[] args) {
        Due.runAll(Promise20Test.class);
    }
}
