/** Promise 16, its edges: behind 1 to 60 days, set off or not, none. */
public final class Promise16Test {
    private static void oneToSixtyDays() {
        Due.is("on the first", Due.of("ball 0 9 holds 5;bursts day=0;").off(0), 1);
        Due.is("on the sixtieth", Due.of("ball 0 9 holds 5;bursts day=59;").off(0), 60);
        Due.is("behind them", Due.of("ball 0 9 holds 5;bursts day=60;").off(0), -1);
        TemperDowns x = Due.of("ball 0 9 holds 5;bursts day=60;");
        x.days(1);
        Due.is("from now on", x.off(0), 60);
    }

    private static void theFirstTime() {
        TemperDowns x = Due.of("person 0 0 0;ball 0 99;rises 20;bursts age-2;");
        Due.is("of many", x.off(0), 3);
        x.days(3);
        Due.is("of what is left", x.off(0), 3);
    }

    private static void none() {
        Due.is("white", Due.of("ball 0 9;bursts 1;").off(0), -1);
        Due.is("never", Due.of("ball 0 9 holds 5;bursts 0;").off(0), -1);
    }

    private static void setOff() {
        TemperDowns x = Due.of("downs 2 1;ball 0 9 holds 4;ball 1 99 holds 10;bursts (holds=10)*(age=7);");
        Due.is("by another", x.off(0), 7);
        Due.is("that one", x.off(1), 7);
        x.guard(0, true);
        Due.is("not a guarded one", x.off(0), -1);
        x.guard(1, true);
        Due.is("by itself, guarded", x.off(1), 7);
    }

    private static void noSuchPuffball() {
        TemperDowns x = Due.of("ball 0 9;".repeat(9) + "ball 1 9 holds 7;");
        Due.is("the last", x.off(9), 10);
        Due.thrown(x, Due.NSE, () -> x.off(-1), () -> x.off(10), () -> x.off(Integer.MAX_VALUE));
        TemperDowns y = new TemperDowns();
        Due.thrown(y, Due.NSE, () -> y.off(0));
    }

    public static void main(String[] args) {
        Due.runAll(Promise16Test.class);
    }
}
