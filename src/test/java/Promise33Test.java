/** Promise 33, its edges: 1 to 60 days or 0 to 60, all calm or none, all white. */
public final class Promise33Test {
    private static void calmOneToSixty() {
        TemperDowns x = Due.of("person 0 0 0;ball 0 9 holds 5;rises 0;bursts day=59;");
        Due.thrown(x, Due.IAE, () -> x.ahead(0, 0), () -> x.ahead(-1, 0), () -> x.ahead(61, 0),
                () -> x.ahead(Integer.MAX_VALUE, 0), () -> x.ahead(Integer.MIN_VALUE, 0));
        Due.is("one", x.ahead(1, 0), 1);
        Due.is("59", x.ahead(59, 0), 59);
        Due.is("sixty", x.ahead(60, 0), 59);
    }

    private static void fullestZeroToSixty() {
        TemperDowns x = Due.of("person 0 0 0;ball 0 9 holds 5;rises 0;bursts day=59;");
        Due.thrown(x, Due.IAE, () -> x.ahead(-1, 1), () -> x.ahead(61, 1),
                () -> x.ahead(Integer.MAX_VALUE, 1), () -> x.ahead(Integer.MIN_VALUE, 1));
        Due.is("now", x.ahead(0, 1), 0);
        Due.is("59", x.ahead(59, 1), 0);
        Due.is("sixty", x.ahead(60, 1), -1);
    }

    private static void noSuchWhatAhead() {
        TemperDowns x = Due.of("ball 0 9 holds 5;");
        Due.thrown(x, Due.NSE, () -> x.ahead(1, -1), () -> x.ahead(1, 2), () -> x.ahead(0, 2),
                () -> x.ahead(61, 2), () -> x.ahead(-1, -1), () -> x.ahead(61, Integer.MAX_VALUE));
    }

    private static void neverCalm() {
        Due.is("shouts each day", Due.of("person 0 0 40;rises 20;").ahead(60, 0), 0);
        Due.is("goes off each day", Due.of("person 0 0 0;ball 0 99;rises 20;bursts 1;").ahead(60, 0), 0);
        Due.is("always calm", Due.of("person 0 0 0;ball 0 9;rises 0;").ahead(60, 0), 60);
    }

    /** To go out is calm; to shout on a day when something goes off is one day. */
    private static void eachDayOnce() {
        Due.is("goes out", Due.of("person 0 0 20;ball 0 99;rises 0;bursts 0;").ahead(1, 0), 1);
        Due.is("shouts", Due.of("person 0 0 20;rises 0;").ahead(1, 0), 0);
        Due.is("both", Due.of("person 0 0 20;ball 0 9 holds 5;rises 0;bursts 1;").ahead(3, 0), 2);
        Due.is("two shout", Due.of("person 0 0 20;person 0 0 20;rises 0;").ahead(3, 0), 2);
    }

    private static void fullest() {
        Due.is("no puffballs", new TemperDowns().ahead(0, 1), -1);
        Due.is("all are white", Due.of("ball 0 9;".repeat(10)).ahead(60, 1), -1);
        Due.is("the last alone", Due.of("ball 0 9;".repeat(9) + "ball 0 9 holds 1;").ahead(0, 1), 9);
        TemperDowns x = Due.of("ball 0 9 holds 4;ball 0 9 holds 5;ball 0 99 holds 5;ball 0 9 holds 3;bursts 0;");
        Due.is("of like ones the least", x.ahead(0, 1), 1);
        x.guard(1, true);
        Due.is("guarded or not", x.ahead(60, 1), 1);
        Due.is("of ten alike, old ones", Due.of("ball 0 9 holds 1;".repeat(10)).ahead(9, 1), 0);
        Due.is("the first", Due.of("ball 0 9 holds 6;ball 0 9 holds 5;ball 0 9;").ahead(0, 1), 0);
    }

    public static void main(String[] args) {
        Due.runAll(Promise33Test.class);
    }
}
