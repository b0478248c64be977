/** Promise 19, its edges: none by which, both are one, not set off anyway, all ten. */
public final class Promise19Test {
    private static final String ROW = "downs 6 1;ball 0 99 holds 20;ball 2 99 holds 20;ball 4 99 holds 20;"
            + "ball 5 9 holds 9;";

    private static void noSuchPuffball() {
        TemperDowns x = Due.of(ROW);
        Due.thrown(x, Due.NSE, () -> x.toGuard(-1, 0), () -> x.toGuard(4, 0), () -> x.toGuard(0, -1),
                () -> x.toGuard(0, 4), () -> x.toGuard(4, 4), () -> x.toGuard(-1, -1));
        Due.is("the last", x.toGuard(3, 3), -1);
        TemperDowns y = new TemperDowns();
        Due.thrown(y, Due.NSE, () -> y.toGuard(0, 0));
    }

    private static void bothAreOne() {
        TemperDowns x = Due.of("ball 0 9 holds 5;ball 0 9;ball 0 9 holds 5;");
        x.guard(2, true);
        Due.is("one that holds something", x.toGuard(0, 0), -1);
        Due.is("a white one", x.toGuard(1, 1), -1);
        Due.is("a guarded one", x.toGuard(2, 2), -1);
    }

    private static void noneByWhich() {
        TemperDowns x = Due.of(ROW);
        Due.is("within its own reach", x.toGuard(0, 1), -1);
        Due.is("the third's", x.toGuard(2, 3), -1);
        Due.is("in one cell", Due.of("ball 0 9 holds 1;ball 0 9 holds 1;").toGuard(1, 0), -1);
    }

    private static void notSetOffAnyway() {
        TemperDowns x = Due.of(ROW);
        Due.is("out of reach", x.toGuard(3, 0), 0);
        x.guard(3, true);
        Due.is("guarded itself", x.toGuard(0, 3), 0);
        x.guard(3, false);
        x.guard(1, true);
        Due.is("one between is guarded", x.toGuard(0, 3), 0);
        TemperDowns y = Due.of("ball 0 9 holds 5;ball 0 9;");
        Due.is("white itself", y.toGuard(0, 1), 0);
        Due.is("by a white one", y.toGuard(1, 0), 0);
    }

    private static void fromAGuardedOne() {
        TemperDowns x = Due.of(ROW);
        x.guard(0, true);
        Due.is("it sets off", x.toGuard(0, 3), 2);
        Due.is("none by which", x.toGuard(0, 1), -1);
    }

    private static void asFewTheLeastAsBits() {
        TemperDowns x = Due.of(ROW);
        Due.is("the second, not the third", x.toGuard(0, 3), 2);
        Due.is("from the other end", x.toGuard(2, 0), 2);
        TemperDowns y = Due.of("downs 3 2;ball 0 99 holds 10;ball 1 99 holds 10;ball 3 99 holds 10;"
                + "ball 4 99 holds 10;ball 5 9 holds 9;");
        Due.is("one, though not the least as bits", y.toGuard(0, 4), 8);
    }

    private static void theFirstBetween() {
        TemperDowns x = Due.of("downs 3 1;ball 1 99 holds 10;ball 0 99 holds 10;ball 2 99 holds 10;");
        Due.is("the first of all", x.toGuard(1, 2), 1);
        Due.is("the other way", x.toGuard(2, 1), 1);
    }

    private static void eightOfTen() {
        TemperDowns x = Due.of("downs 5 1;ball 0 99 holds 20;" + "ball 2 99 holds 20;".repeat(8)
                + "ball 4 9 holds 9;");
        Due.is("all between", x.toGuard(0, 9), 510);
        x.guard(1, true);
        x.guard(8, true);
        Due.is("besides", x.toGuard(0, 9), 510 - 2 - 256);
        for (int ball = 2; ball <= 7; ball++) {
            x.guard(ball, true);
        }
        Due.is("none more is needed", x.toGuard(0, 9), 0);
        TemperDowns y = Due.of("downs 5 1;ball 0 9 holds 9;" + "ball 2 99 holds 20;".repeat(8)
                + "ball 4 99 holds 20;");
        Due.is("from the last to the first", y.toGuard(9, 0), 510);
    }

    private static void nothingChanges() {
        TemperDowns x = Due.of(ROW);
        x.toGuard(0, 3);
        Due.is("no guards", x.count(6), 0);
        Due.is("no acts", x.count(11), 0);
    }

    public static void main(String[] args) {
        Due.runAll(Promise19Test.class);
    }
}
