/** Promise 21, its edges: to itself, no way, where it begins, the least of like steps. */
public final class Promise21Test {
    private static void way(TemperDowns x, int cell, int to, int steps, int first) {
        Due.is("steps from " + cell + " to " + to, x.pram(cell, to, 0), steps);
        Due.is("first from " + cell + " to " + to, x.pram(cell, to, 1), first);
    }

    private static void noSuchCell() {
        TemperDowns x = Due.of("downs 3 2;");
        way(x, 0, 5, 3, 1);
        way(x, 5, 0, 3, 2);
        Due.thrown(x, Due.NSE, () -> x.pram(-1, 0, 0), () -> x.pram(6, 0, 0), () -> x.pram(0, -1, 1),
                () -> x.pram(0, 6, 1), () -> x.pram(6, 6, 0), () -> x.pram(Integer.MAX_VALUE, 0, 0),
                () -> x.pram(6, 0, 2));
        TemperDowns y = Due.of("downs 6 6;");
        way(y, 0, 35, 10, 1);
        Due.thrown(y, Due.NSE, () -> y.pram(36, 0, 0), () -> y.pram(0, 36, 0));
    }

    private static void noSuchWhat() {
        TemperDowns x = Due.of("downs 3 2;");
        Due.thrown(x, Due.NSE, () -> x.pram(0, 5, -1), () -> x.pram(0, 5, 2), () -> x.pram(0, 0, 2),
                () -> x.pram(0, 5, Integer.MIN_VALUE));
    }

    private static void toItself() {
        TemperDowns x = Due.of("downs 1 1;ball 0 9 holds 5;");
        way(x, 0, 0, 0, -1);
        way(Due.of("downs 1 1;"), 0, 0, 0, -1);
        way(Due.of(""), 5, 5, 0, -1);
    }

    private static void notToOneThatItCantGoThrough() {
        TemperDowns x = Due.of("downs 3 1;ball 1 9 holds 1;");
        way(x, 0, 1, -1, -1);
        way(x, 0, 2, -1, -1);
        way(x, 1, 0, 1, 0);
        way(x, 1, 2, 1, 2);
        x.tread(0);
        way(x, 0, 1, 1, 1);
        way(x, 0, 2, 2, 1);
    }

    private static void fromOneThatItCantGoThroughToAnother() {
        TemperDowns x = Due.of("downs 2 1;ball 0 9 holds 1;ball 1 9 holds 1;");
        way(x, 0, 1, -1, -1);
        way(x, 0, 0, 0, -1);
    }

    private static void whiteOnesDontBar() {
        TemperDowns x = Due.of("downs 3 1;ball 1 9;ball 1 9;");
        x.guard(0, true);
        way(x, 0, 2, 2, 1);
        TemperDowns y = Due.of("downs 3 1;ball 1 9;ball 1 9 holds 9;");
        way(y, 0, 2, -1, -1);
        y.guard(1, true);
        way(y, 0, 2, -1, -1);
        y.carry(1, 0);
        way(y, 0, 2, 2, 1);
    }

    private static void notRoundTheSides() {
        TemperDowns x = Due.of("downs 3 2;");
        way(x, 2, 3, 3, 1);
        way(x, 3, 2, 3, 0);
    }

    private static void theLeastOfLikeSteps() {
        TemperDowns x = Due.of("downs 3 3;ball 4 9 holds 5;");
        way(x, 3, 5, 4, 0);
        way(x, 5, 3, 4, 2);
        way(x, 4, 8, 2, 5);
        way(x, 4, 0, 2, 1);
        way(x, 8, 0, 4, 5);
        x.carry(0, 5);
        way(x, 8, 0, 4, 7);
    }

    private static void theLongestWay() {
        TemperDowns x = Due.of("downs 6 5;ball 6 9 holds 1;ball 7 9 holds 1;ball 8 9 holds 1;ball 9 9 holds 1;"
                + "ball 10 9 holds 1;ball 19 9 holds 1;ball 20 9 holds 1;ball 21 9 holds 1;"
                + "ball 22 9 holds 1;ball 23 9 holds 1;");
        way(x, 0, 29, 19, 1);
        way(x, 29, 0, 19, 28);
    }

    public static void main(String[] args) {
        Due.runAll(Promise21Test.class);
    }
}
