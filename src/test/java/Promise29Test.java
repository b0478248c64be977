/** Promise 29, its edges: no temper, both are one, exceptions in their order, ten days, losses. */
public final class Promise29Test {
    private static void noSuchPerson() {
        TemperDowns x = Due.of("person 0 0 5;".repeat(7) + "rises 0;");
        Due.is("the last", x.game(0, 6, 1), 0);
        Due.thrown(x, Due.NSE, () -> x.game(-1, 0, 0), () -> x.game(7, 0, 0), () -> x.game(0, -1, 0),
                () -> x.game(0, 7, 1), () -> x.game(7, 7, 0), () -> x.game(-1, -1, 1));
    }

    private static void noSuchWhat() {
        TemperDowns x = Due.of("person 0 0 5;person 0 0 0;");
        Due.thrown(x, Due.NSE, () -> x.game(0, 1, -1), () -> x.game(0, 1, 2), () -> x.game(0, 0, 2),
                () -> x.game(1, 1, -1), () -> x.game(0, 0, Integer.MAX_VALUE));
    }

    private static void bothAreOne() {
        TemperDowns x = Due.of("person 0 0 5;person 0 0 0;");
        Due.thrown(x, Due.IAE, () -> x.game(0, 0, 0), () -> x.game(0, 0, 1), () -> x.game(1, 1, 0),
                () -> x.game(1, 1, 1));
    }

    private static void noTemper() {
        TemperDowns x = Due.of("person 0 0 1;person 0 0 0;person 0 0 0;person 0 0 1;rises 0;");
        for (int what = 0; what <= 1; what++) {
            Due.is("the other", x.game(0, 1, what), -1);
            Due.is("the first", x.game(1, 0, what), -1);
            Due.is("both", x.game(1, 2, what), -1);
        }
        Due.is("1 is one", x.game(0, 3, 0), 1);
        Due.is("neither goes out", x.game(0, 3, 1), 0);
    }

    private static void noneRests() {
        TemperDowns x = Due.of("person 0 9 10;person 3 9 10;ball 0 99;");
        Due.is("how many", x.game(0, 1, 0), 0);
        Due.is("the first", x.game(0, 1, 1), -1);
    }

    private static void tenDays() {
        String text = "person 0 0 5;person 3 0 5;ball 0 9;ball 3 9;rises (day=DAY)*15;bursts 0;";
        Due.is("a shout on the tenth", Due.of(text.replace("DAY", "9")).game(0, 1, 1), 11);
        Due.is("on the eleventh", Due.of(text.replace("DAY", "10")).game(0, 1, 1), 0);
        TemperDowns x = Due.of(text.replace("DAY", "10"));
        x.days(1);
        Due.is("from now", x.game(0, 1, 1), 11);
    }

    /** To go out costs 2, in vain, too: so a shout of 4 is dearer, one heard is cheaper. */
    private static void twoByTheChoice() {
        TemperDowns x = Due.of("person 0 0 5;person 3 0 5;rises 0;");
        Due.is("no puffball", x.game(0, 1, 1), 0);
        Due.is("alone rests", x.game(0, 1, 0), 1);
        TemperDowns y = Due.of("downs 1 1;person 0 0 5;person 0 0 5;ball 0 5;rises 0;bursts 0;");
        Due.is("nothing to gain", y.game(0, 1, 1), 0);
    }

    private static final String EVEN = "downs 1 1;person 0 0 15;person 0 0 1;BALLSrises (day=9)*5;bursts holds=15;";

    private static TemperDowns even(String balls) {
        return Due.of(EVEN.replace("BALLS", balls));
    }

    /** One shouts on the tenth day, or goes out, which costs 2, and hears as many as go off. */
    private static void fourForAShoutOneForWhatIsHeard() {
        TemperDowns x = even("ball 0 15;");
        Due.is("one heard: 3, not 4", x.game(0, 1, 1), 10);
        Due.is("alone", x.game(0, 1, 0), 1);
        TemperDowns y = even("ball 0 15;ball 0 9 holds 1;");
        Due.is("two heard: 4 and 4", y.game(0, 1, 0), 2);
        Due.is("the first of them", y.game(0, 1, 1), 0);
        TemperDowns z = even("ball 0 15;ball 0 9 holds 1;ball 0 9 holds 1;");
        Due.is("three heard: 5, not 4", z.game(0, 1, 0), 1);
        Due.is("neither", z.game(0, 1, 1), 0);
    }

    /** The same, the other one being the one who could. */
    private static void fourAndOneForTheOther() {
        TemperDowns x = even("ball 0 15;");
        Due.is("one heard: 3, not 4", x.game(1, 0, 1), 1);
        Due.is("alone", x.game(1, 0, 0), 1);
        TemperDowns y = even("ball 0 15;ball 0 9 holds 1;");
        Due.is("two heard: 4 and 4", y.game(1, 0, 0), 2);
        Due.is("the first of them", y.game(1, 0, 1), 0);
        TemperDowns z = even("ball 0 15;ball 0 9 holds 1;ball 0 9 holds 1;");
        Due.is("three heard: 5, not 4", z.game(1, 0, 0), 1);
        Due.is("neither", z.game(1, 0, 1), 0);
    }

    private static void theGreaterNamedFirst() {
        TemperDowns x = Due.of("person 0 0 50;person 0 0 5;person 0 0 50;ball 0 60;rises 0;bursts 0;");
        Due.is("goes out", x.game(2, 1, 1), 10);
        Due.is("named behind", x.game(1, 2, 1), 1);
        Due.is("alone", x.game(2, 1, 0), 1);
    }

    private static void tenByTheFirstOnesAndTheOthers() {
        TemperDowns x = Due.of("person 0 0 50;person 0 0 50;person 0 0 5;ball 0 60;rises 0;bursts 0;");
        Due.is("the first goes out", x.game(1, 2, 1), 10);
        Due.is("the other goes out", x.game(2, 1, 1), 1);
    }

    private static void theLesserFirst() {
        TemperDowns x = Due.of("person 0 0 19;person 0 0 19;ball 0 19;rises (day=0)*1;bursts 0;");
        Due.is("the lesser gets it", x.game(0, 1, 1), 10);
        Due.is("whoever is named first", x.game(1, 0, 1), 1);
    }

    private static void nothingChanges() {
        TemperDowns x = Due.of("person 0 9 10;person 3 9 10;ball 0 99;");
        String before = Due.state(x);
        x.game(0, 1, 0);
        Due.is("all stays", Due.state(x).equals(before), true);
    }

    public static void main(String[] args) {
        Due.runAll(Promise29Test.class);
    }
}
