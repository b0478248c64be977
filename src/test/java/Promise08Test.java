/** Promise 8, its edges: how many days, the last day of all, what a day brings. */
public final class Promise08Test {
    private static void oneToTwenty() {
        TemperDowns x = Due.of("person 0 0 1;ball 0 9 holds 5;");
        x.soothe(0, 3);
        Due.refused(x, 1, () -> x.days(0), () -> x.days(21), () -> x.days(-1),
                () -> x.days(Integer.MAX_VALUE), () -> x.days(Integer.MIN_VALUE));
        Due.is("one", x.days(1), 1);
        Due.is("twenty", x.days(20), 21);
        Due.is("acts", x.count(11), 3);
        Due.is("undone", x.undo(), 2);
        Due.is("the day", x.count(4), 1);
    }

    private static void aRefusedCallIsNoAct() {
        TemperDowns x = Due.of("person 0 0 1;");
        x.soothe(0, 3);
        x.days(0);
        Due.is("undone is what was done", x.undo(), 0);
        Due.is("temper", x.person(0, 2), 1);
    }

    private static TemperDowns onDay9980(String text) {
        TemperDowns x = Due.of(text);
        for (int i = 0; i < 499; i++) {
            x.days(20);
        }
        return x;
    }

    private static void notAbove9999() {
        TemperDowns x = onDay9980("");
        Due.is("20 would be above", x.days(20), -1);
        Due.is("status", x.count(15), 1);
        Due.is("19", x.days(19), 9999);
        Due.is("one more", x.days(1), -1);
        Due.is("status", x.count(15), 2);
        Due.is("the day", x.count(4), 9999);
        Due.is("acts", x.count(11), 40);
        Due.is("undone", x.undo(), 39);
        Due.is("the day", x.count(4), 9980);
    }

    private static void upTo9999AndThere() {
        TemperDowns x = onDay9980("");
        Due.is("18", x.days(18), 9998);
        Due.is("2 would be above", x.days(2), -1);
        Due.is("1", x.days(1), 9999);
        Due.is("20", x.days(20), -1);
    }

    /** What is told of days from now on isn't kept below 9999. */
    private static void forecastsGoBeyond() {
        TemperDowns x = onDay9980("ball 0 9 holds 1;bursts day=9999+59;");
        x.days(19);
        Due.is("on the sixtieth", x.off(0), 60);
        Due.is("the day", x.count(4), 9999);
    }

    private static void riseIsKeptFrom0To20() {
        int[] rise = {0, 1, 19, 20, 20, 20};
        String[] rules = {"0-1", "1", "19", "20", "21", "9999"};
        for (int i = 0; i < rules.length; i++) {
            TemperDowns x = Due.of("person 0 0 50;ball 0 99;rises " + rules[i] + ";bursts 0;");
            x.days(1);
            Due.is("by " + rules[i], x.ball(0, 2), 50 + rise[i]);
        }
    }

    private static void withoutRises() {
        for (int mild = 0; mild <= 9; mild++) {
            TemperDowns x = Due.of("person 0 " + mild + " 5;");
            x.days(1);
            Due.is("mild " + mild, x.person(0, 2), 15 - mild);
        }
    }

    private static void temperIs99AtMost() {
        for (int temper = 88; temper <= 99; temper++) {
            TemperDowns x = Due.of("person 0 0 " + temper + ";ball 0 99;");
            x.days(1);
            Due.is("of " + temper, x.ball(0, 2), Math.min(temper + 10, 99));
        }
    }

    private static void twentyOrMoreGoesOut() {
        TemperDowns x = Due.of("person 0 0 9;person 0 0 10;ball 0 99;");
        x.days(1);
        Due.is("19 stays", x.person(0, 2), 19);
        Due.is("20 is put by", x.person(1, 2), 0);
        Due.is("it holds", x.ball(0, 2), 20);
        Due.is("whose", x.ball(0, 4), 1);
        Due.is("nobody shouted", x.count(9), 0);
    }

    private static void shoutsIfNoneIsLargeEnough() {
        TemperDowns x = Due.of("person 0 0 15;ball 0 24;ball 0 99 holds 1;");
        x.days(1);
        Due.is("24 is too small for 25", x.person(0, 3), 1);
        Due.is("half, cut down", x.person(0, 2), 12);
        Due.is("still white", x.ball(0, 2), 0);
        TemperDowns y = Due.of("person 0 0 15;ball 0 25;");
        y.days(1);
        Due.is("25 is just enough", y.ball(0, 2), 25);
        Due.is("no shout", y.person(0, 3), 0);
    }

    private static void personByPerson() {
        TemperDowns x = Due.of("person 0 0 10;person 0 0 20;ball 0 30;ball 0 20;");
        x.days(1);
        Due.is("the first takes the least of like ones", x.ball(0, 4), 0);
        Due.is("the other finds none", x.person(1, 3), 1);
        TemperDowns y = Due.of("person 0 0 10;person 0 0 10;ball 0 30;ball 0 20;");
        y.days(1);
        Due.is("the other takes the other", y.ball(1, 4), 1);
    }

    private static void agesSinceThisDay() {
        TemperDowns x = Due.of("person 0 0 10;ball 0 30;ball 5 9;ball 5 9 holds 9;bursts 0;");
        x.days(1);
        Due.is("filled this day", x.ball(0, 3), 1);
        Due.is("white", x.ball(1, 3), 0);
        Due.is("from the beginning", x.ball(2, 3), 1);
        x.days(20);
        Due.is("without an end", x.ball(2, 3), 21);
    }

    private static void withoutBurstsOfAge10() {
        TemperDowns x = Due.of("ball 0 9 holds 5;ball 5 9 holds 5;");
        x.guard(1, true);
        x.days(9);
        Due.is("of age 9", x.ball(0, 3), 9);
        Due.is("not yet", x.ball(0, 2), 5);
        x.days(1);
        Due.is("of age 10", x.count(5), 3);
        Due.is("guarded as before", x.count(6), 2);
    }

    private static void burstsByMoreThan0() {
        String[] rules = {"0-1", "0", "1", "9999", "0-9999"};
        int[] white = {0, 0, 1, 1, 0};
        for (int i = 0; i < rules.length; i++) {
            TemperDowns x = Due.of("ball 0 9 holds 5;bursts " + rules[i] + ";");
            x.days(1);
            Due.is("by " + rules[i], x.count(5), white[i]);
        }
    }

    private static void whiteOnesDontBurst() {
        TemperDowns x = Due.of("person 0 0 0;ball 0 9;bursts 1;rises 0;");
        x.days(5);
        Due.is("nobody hears", x.person(0, 4), 0);
    }

    private static void dayIsOneMoreBehindAll() {
        TemperDowns x = Due.of("person 0 0 0;ball 0 9 holds 9;rises (day=0)*7;bursts day=0;");
        x.days(1);
        Due.is("rises on day 0", x.person(0, 2), 12);
        Due.is("bursts on day 0", x.ball(0, 2), 0);
        x.days(1);
        Due.is("not on day 1", x.person(0, 2), 12);
    }

    private static void allAtOnceByWhatIsSoThen() {
        TemperDowns x = Due.of("downs 2 1;ball 0 99 holds 10;ball 1 99 holds 10;bursts near;");
        x.guard(0, true);
        x.guard(1, true);
        x.days(1);
        Due.is("both", x.count(5), 3);
        TemperDowns y = Due.of("downs 2 1;ball 0 99 holds 10;ball 1 99 holds 9;bursts near and age=1;");
        y.guard(1, true);
        y.days(1);
        Due.is("one has the other near", y.count(5), 1);
        TemperDowns z = Due.of("ball 0 9 holds 3;ball 1 9 holds 4;bursts age=2;");
        z.days(2);
        Due.is("ages of all are told", z.count(5), 3);
    }

    public static void main(String[] args) {
        Due.runAll(Promise08Test.class);
    }
}
