/** Promise 32, its edges: behind 1 to 60 days, none, which of the two one does. */
public final class Promise32Test {
    private static void when(String text, int person, int out, int shout) {
        TemperDowns x = Due.of(text);
        Due.is("goes out: " + text, x.when(person, 0), out);
        Due.is("shouts: " + text, x.when(person, 1), shout);
    }

    private static void noSuchPerson() {
        TemperDowns x = Due.of("person 0 9 0;".repeat(6) + "person 0 0 0;rises (mild=0)*20;");
        Due.is("the last", x.when(6, 1), 1);
        Due.thrown(x, Due.NSE, () -> x.when(-1, 0), () -> x.when(7, 0), () -> x.when(7, 2),
                () -> x.when(Integer.MAX_VALUE, 1));
        TemperDowns y = Due.of("ball 0 9;");
        Due.thrown(y, Due.NSE, () -> y.when(0, 0), () -> y.when(0, 1));
    }

    private static void noSuchWhat() {
        TemperDowns x = Due.of("person 0 9 0;");
        Due.thrown(x, Due.NSE, () -> x.when(0, -1), () -> x.when(0, 2), () -> x.when(0, Integer.MIN_VALUE));
    }

    private static void oneToSixtyDays() {
        when("person 0 0 0;ball 0 99;rises (day=0)*20;bursts 0;", 0, 1, -1);
        when("person 0 0 0;ball 0 99;rises (day=59)*20;bursts 0;", 0, 60, -1);
        when("person 0 0 0;ball 0 99;rises (day=60)*20;bursts 0;", 0, -1, -1);
        when("person 0 0 0;rises (day=0)*20;", 0, -1, 1);
        when("person 0 0 0;rises (day=59)*20;", 0, -1, 60);
        when("person 0 0 0;rises (day=60)*20;", 0, -1, -1);
    }

    private static void twentyOrMore() {
        when("person 0 0 19;ball 0 99;rises 0;", 0, -1, -1);
        when("person 0 0 20;ball 0 99;rises 0;", 0, 1, -1);
        when("person 0 0 20;ball 0 19;rises 0;", 0, -1, 1);
        when("person 0 0 20;ball 0 20;rises 0;", 0, 1, -1);
    }

    /** What one did ahead of now doesn't count. */
    private static void fromNowOn() {
        TemperDowns x = Due.of("person 0 0 20;person 0 0 20;ball 0 99;rises 0;bursts 0;");
        x.days(1);
        Due.is("gone out already", x.when(0, 0), -1);
        Due.is("shouted already", x.when(1, 1), -1);
    }

    private static void oneOfMany() {
        String text = "person 0 0 20;".repeat(7) + "ball 0 99;".repeat(3) + "rises 0;bursts 0;";
        for (int person = 0; person < 7; person++) {
            when(text, person, person < 3 ? 1 : -1, person < 3 ? -1 : 1);
        }
    }

    public static void main(String[] args) {
        Due.runAll(Promise32Test.class);
    }
}
