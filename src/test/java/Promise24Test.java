/** Promise 24, its edges: eight at most, 0 to 20 days, what comes ahead. */
public final class Promise24Test {
    private static final String ONE = "person 0 5 0;ball 0 99;";

    private static void zeroToTwentyDays() {
        TemperDowns x = Due.of(ONE);
        Due.refused(x, 2, () -> x.see(0, -1, true), () -> x.see(0, 21, true), () -> x.see(0, -1, false),
                () -> x.see(0, Integer.MAX_VALUE, true), () -> x.see(0, Integer.MIN_VALUE, false));
        Due.is("0", x.see(0, 0, true), 1);
        Due.is("20", x.see(0, 20, false), 2);
        Due.is("no status", x.count(16), 5);
    }

    private static void eightAtMost() {
        TemperDowns x = Due.of(ONE);
        for (int i = 1; i <= 8; i++) {
            Due.is("seen", x.see(0, 0, true), i);
        }
        Due.refused(x, 2, () -> x.see(0, 0, true), () -> x.see(0, 1, false), () -> x.see(0, 21, true));
        Due.is("the ninth isn't taken", x.milder(2), 1);
    }

    private static void noSuchPuffballAhead() {
        TemperDowns x = Due.of(ONE);
        Due.thrown(x, Due.NSE, () -> x.see(1, 0, true), () -> x.see(-1, 0, true), () -> x.see(1, 21, true),
                () -> x.see(-1, -1, false));
        for (int i = 1; i <= 8; i++) {
            x.see(0, 0, true);
        }
        Due.thrown(x, Due.NSE, () -> x.see(1, 0, true), () -> x.see(1, 21, true));
        TemperDowns y = Due.of("ball 0 9;".repeat(10));
        Due.is("the last", y.see(9, 0, true), 1);
        Due.thrown(y, Due.NSE, () -> y.see(10, 0, true));
    }

    private static void likeOnesAndUnlikeOnes() {
        TemperDowns x = Due.of(ONE);
        Due.is("one", x.see(0, 3, true), 1);
        Due.is("the same", x.see(0, 3, true), 2);
        Due.is("the contrary", x.see(0, 3, false), 3);
        Due.is("never so", x.milder(2), 0);
        Due.is("by nobody", x.milder(0), 0);
    }

    private static void noAct() {
        TemperDowns x = Due.of(ONE);
        x.see(0, 3, true);
        Due.is("acts", x.count(11), 0);
        Due.is("undo", x.undo(), -1);
        Due.is("seen", x.count(12), 1);
    }

    public static void main(String[] args) {
        Due.runAll(Promise24Test.class);
    }
}
