/** Promise 34, its edges: 1 to 60 days, each counted at the end of the day. */
public final class Promise34Test {
    private static void oneToSixtyDays() {
        TemperDowns x = Due.of("person 0 0 20;ball 0 99;rises 0;bursts 0;");
        Due.thrown(x, Due.IAE, () -> x.stays(0, 0), () -> x.stays(0, -1), () -> x.stays(0, 61),
                () -> x.stays(0, Integer.MAX_VALUE), () -> x.stays(0, Integer.MIN_VALUE));
        Due.is("one", x.stays(0, 1), 1);
        Due.is("sixty", x.stays(0, 60), 60);
        x.days(1);
        Due.is("one's own already", x.stays(0, 60), 60);
    }

    private static void noSuchPersonAhead() {
        TemperDowns x = Due.of("person 0 9 0;".repeat(6) + "person 0 0 20;ball 0 99;rises 0;");
        Due.is("the last", x.stays(6, 1), 1);
        Due.thrown(x, Due.NSE, () -> x.stays(-1, 1), () -> x.stays(7, 1), () -> x.stays(7, 0),
                () -> x.stays(-1, 61), () -> x.stays(Integer.MAX_VALUE, 61));
        TemperDowns y = Due.of("ball 0 9;");
        Due.thrown(y, Due.NSE, () -> y.stays(0, 1), () -> y.stays(0, 0));
    }

    private static void atTheEnd() {
        TemperDowns x = Due.of("person 0 0 20;ball 0 99;rises 0;bursts 1;");
        Due.is("filled and gone off on one day", x.stays(0, 60), 0);
        TemperDowns y = Due.of("person 0 0 20;ball 0 99;rises 0;");
        Due.is("not on the day when it goes off", y.stays(0, 60), 9);
        Due.is("up to there", y.stays(0, 9), 9);
        Due.is("and there", y.stays(0, 10), 9);
    }

    private static void eachCounted() {
        TemperDowns x = Due.of("person 0 0 0;" + "ball 0 99;".repeat(10) + "rises (day<10)*20;bursts 0;");
        Due.is("ten", x.stays(0, 10), 55);
        Due.is("ten for fifty more", x.stays(0, 60), 555);
    }

    private static void onlyOnesOwn() {
        TemperDowns x = Due.of("person 0 0 20;person 0 0 0;ball 0 99;ball 0 9 holds 9;ball 0 9;rises 0;bursts 0;");
        Due.is("not held from the beginning", x.stays(0, 5), 5);
        Due.is("not another one's, nor white ones", x.stays(1, 5), 0);
    }

    public static void main(String[] args) {
        Due.runAll(Promise34Test.class);
    }
}
