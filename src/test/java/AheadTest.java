/** Promises 14 to 18 and 32 to 34: what comes, if only days go by. */
public final class AheadTest {
    /**
     * Day 1: 20, put by. Day 2: 20, shouts, 10. Day 3: 30, shouts, 15; it bursts, 20. Day 4: 40, put
     * by. Day 5: 20, shouts, 10. Day 6: 30, shouts, 15; it bursts, 20. So on.
     */
    private static final String ONE = "person 0 0 0;ball 0 99;rises 20;bursts age-2;";

    private static void then() {
        Due.promise("14");
        TemperDowns x = Due.of(ONE);
        int[] holds = {0, 20, 20, 0, 40, 40, 0, 40};
        int[] age = {0, 1, 2, 0, 1, 2, 0, 1};
        int[] owner = {-1, 0, 0, -1, 0, 0, -1, 0};
        for (int day = 0; day < holds.length; day++) {
            Due.is("holds behind " + day, x.then(0, day, 0), holds[day]);
            Due.is("age behind " + day, x.then(0, day, 1), age[day]);
            Due.is("whose behind " + day, x.then(0, day, 2), owner[day]);
        }
        Due.is("behind 60", x.then(0, 60, 0), 0);
        Due.wrong("then(0, 61, 0)", () -> x.then(0, 61, 0));
        Due.wrong("then(0, -1, 0)", () -> x.then(0, -1, 0));
        Due.none("then(1, 61, 0)", () -> x.then(1, 61, 0));
        Due.none("then(-1, 0, 0)", () -> x.then(-1, 0, 0));
        Due.none("then(0, 61, 3)", () -> x.then(0, 61, 3));
        Due.none("then(0, 0, -1)", () -> x.then(0, 0, -1));
        Due.is("nothing is so now", x.count(4), 0);
        Due.is("nor has been done", x.count(11), 0);
        TemperDowns y = Due.of("ball 0 9 holds 5;");
        Due.is("held from the beginning", y.then(0, 9, 2), -1);
        Due.is("of age", y.then(0, 9, 1), 9);
        Due.is("still", y.then(0, 9, 0), 5);
        Due.is("gone off", y.then(0, 10, 0), 0);
        y.days(5);
        Due.is("from now on", y.then(0, 5, 0), 0);
    }

    private static void mood() {
        Due.promise("15");
        TemperDowns x = Due.of(ONE);
        int[] temper = {0, 0, 10, 20, 0, 10, 20, 0};
        int[] shouted = {0, 0, 1, 2, 2, 3, 4, 4};
        int[] heard = {0, 0, 0, 1, 1, 1, 2, 2};
        for (int day = 0; day < temper.length; day++) {
            Due.is("temper behind " + day, x.mood(0, day, 0), temper[day]);
            Due.is("shouted behind " + day, x.mood(0, day, 1), shouted[day]);
            Due.is("heard behind " + day, x.mood(0, day, 2), heard[day]);
        }
        Due.is("heard behind 60", x.mood(0, 60, 2), 20);
        Due.wrong("mood(0, 61, 0)", () -> x.mood(0, 61, 0));
        Due.wrong("mood(0, -1, 0)", () -> x.mood(0, -1, 0));
        Due.none("mood(1, 61, 0)", () -> x.mood(1, 61, 0));
        Due.none("mood(-1, 0, 0)", () -> x.mood(-1, 0, 0));
        Due.none("mood(0, 61, 3)", () -> x.mood(0, 61, 3));
        Due.none("mood(0, 0, -1)", () -> x.mood(0, 0, -1));
        TemperDowns y = Due.of("person 0 9 98;person 0 4 18;rises temper=98 or mild=4;");
        Due.is("halved, cut down", y.mood(0, 1, 0), 49);
        Due.is("19 is not great", y.mood(1, 1, 0), 19);
        Due.is("20 is", y.mood(1, 2, 0), 10);
        TemperDowns z = Due.of("person 0 0 95;");
        Due.is("99 at most", z.mood(0, 1, 0), 49);
    }

    private static void off() {
        Due.promise("16");
        TemperDowns x = Due.of(ONE);
        Due.is("goes off", x.off(0), 3);
        x.days(3);
        Due.is("goes off again", x.off(0), 3);
        Due.none("off(1)", () -> x.off(1));
        Due.none("off(-1)", () -> x.off(-1));
        Due.is("on the last day", Due.of("ball 0 9 holds 5;bursts day=59;").off(0), 60);
        Due.is("too late", Due.of("ball 0 9 holds 5;bursts day=60;").off(0), -1);
        Due.is("not by less than 1", Due.of("ball 0 9 holds 5;bursts 0-1;").off(0), -1);
        TemperDowns y = Due.of("downs 2 1;ball 0 9 holds 4;ball 1 99 holds 10;bursts holds=10;");
        Due.is("set off", y.off(0), 1);
        y.guard(0, true);
        Due.is("not if guarded", y.off(0), -1);
        y.guard(1, true);
        Due.is("bursts guarded or not", y.off(1), 1);
        TemperDowns z = Due.of("downs 3 1;ball 0 99 holds 20;ball 1 9 holds 9;ball 2 9 holds 9;"
                + "ball 2 9;bursts near=2;");
        Due.is("two near", z.off(0), 1);
        Due.is("set off by it", z.off(2), 1);
        Due.is("white", z.off(3), -1);
        z.carry(2, 1);
        z.guard(1, true);
        Due.is("near, though guarded", z.off(0), 1);
        z.tread(2);
        Due.is("one near", z.off(0), -1);
        TemperDowns q = Due.of("downs 2 1;ball 0 99 holds 10;ball 1 99 holds 10;bursts near;");
        q.guard(0, true);
        q.guard(1, true);
        Due.is("all at once", q.off(0), 1);
        Due.is("all at once, too", q.off(1), 1);
    }

    private static void first() {
        Due.promise("17");
        Due.is("of like ones the least", Due.of("ball 0 9 holds 4;ball 1 9 holds 5;ball 2 9 holds 5;"
                + "bursts (holds=5)*(age=3);").first(), 1);
        Due.is("set off or not",
                Due.of("downs 2 1;ball 0 9 holds 4;ball 1 99 holds 10;bursts holds=10;").first(), 0);
        Due.is("the first", Due.of("ball 0 9 holds 4;ball 1 9 holds 5;bursts holds+age=8;").first(), 1);
        Due.is("on the last day", Due.of("ball 0 9 holds 4;bursts day=59;").first(), 0);
        Due.is("none", Due.of("ball 0 9 holds 4;bursts day=60;").first(), -1);
        Due.is("nothing there", new TemperDowns().first(), -1);
    }

    private static void later() {
        Due.promise("18");
        TemperDowns x = Due.of(ONE);
        int[] often = {0, 0, 0, 1, 1, 1, 2};
        int[] held = {0, 20, 20, 0, 40, 40, 0};
        for (int day = 0; day < often.length; day++) {
            Due.is("often in " + day, x.later(day, 0), often[day]);
            Due.is("held behind " + day, x.later(day, 1), held[day]);
            Due.is("white behind " + day, x.later(day, 2), held[day] == 0 ? 1 : 0);
            Due.is("crossest behind " + day, x.later(day, 3), 0);
        }
        Due.is("often in 60", x.later(60, 0), 20);
        Due.wrong("later(61, 0)", () -> x.later(61, 0));
        Due.wrong("later(-1, 3)", () -> x.later(-1, 3));
        Due.none("later(61, 4)", () -> x.later(61, 4));
        Due.none("later(0, -1)", () -> x.later(0, -1));
        TemperDowns y = Due.of("person 0 9 7;person 0 0 7;person 0 0 7;ball 0 9 holds 3;ball 0 9;");
        Due.is("crossest now", y.later(0, 3), 0);
        Due.is("crossest then", y.later(1, 3), 1);
        Due.is("white ones", y.later(0, 2), 2);
        Due.is("nobody", Due.of("ball 0 9;").later(3, 3), -1);
        TemperDowns z = Due.of("downs 2 1;ball 0 9 holds 4;ball 1 99 holds 10;bursts holds=10;");
        Due.is("set off ones count", z.later(1, 0), 2);
    }

    private static void when() {
        Due.promise("32");
        TemperDowns x = Due.of(ONE);
        Due.is("goes out", x.when(0, 0), 1);
        Due.is("shouts", x.when(0, 1), 2);
        x.days(1);
        Due.is("goes out again", x.when(0, 0), 3);
        Due.is("shouts at once", x.when(0, 1), 1);
        Due.none("when(1, 0)", () -> x.when(1, 0));
        Due.none("when(-1, 0)", () -> x.when(-1, 0));
        Due.none("when(0, 2)", () -> x.when(0, 2));
        Due.none("when(0, -1)", () -> x.when(0, -1));
        TemperDowns y = Due.of("person 0 0 10;person 1 0 10;ball 0 99;bursts 0;");
        Due.is("the first one goes out", y.when(0, 0), 1);
        Due.is("the other one shouts", y.when(1, 1), 1);
        Due.is("and doesn't go out", y.when(1, 0), -1);
        Due.is("never shouts", Due.of("person 0 0 0;rises 0;").when(0, 1), -1);
        Due.is("on the last day", Due.of("person 0 0 0;rises (day=59)*20;").when(0, 1), 60);
        Due.is("too late", Due.of("person 0 0 0;rises (day=60)*20;").when(0, 1), -1);
        TemperDowns both = Due.of("person 0 0 10;person 1 0 10;ball 0 99;ball 0 99;");
        Due.is("both go out", both.when(0, 0), 1);
        Due.is("both go out at once", both.when(1, 0), 1);
        TemperDowns neither = Due.of("person 0 0 10;person 1 0 10;");
        Due.is("both shout", neither.when(0, 1), 1);
        Due.is("both shout at once", neither.when(1, 1), 1);
        TemperDowns z = Due.of("person 0 0 20;ball 0 20;ball 1 30;rises 0;");
        z.soothe(0, 21);
        z.days(1);
        Due.is("the nearest that is large enough", z.ball(1, 4), 0);
        Due.is("the small one stays white", z.ball(0, 2), 0);
    }

    private static void ahead() {
        Due.promise("33");
        TemperDowns x = Due.of(ONE);
        int[] calm = {0, 1, 1, 1, 2, 2, 2, 3};
        int[] fullest = {-1, 0, 0, -1, 0, 0, -1, 0};
        for (int day = 0; day < calm.length; day++) {
            if (day > 0) {
                Due.is("calm in " + day, x.ahead(day, 0), calm[day]);
            }
            Due.is("fullest behind " + day, x.ahead(day, 1), fullest[day]);
        }
        Due.is("calm in 60", x.ahead(60, 0), 20);
        Due.wrong("ahead(0, 0)", () -> x.ahead(0, 0));
        Due.wrong("ahead(61, 0)", () -> x.ahead(61, 0));
        Due.wrong("ahead(-1, 1)", () -> x.ahead(-1, 1));
        Due.wrong("ahead(61, 1)", () -> x.ahead(61, 1));
        Due.none("ahead(0, 2)", () -> x.ahead(0, 2));
        Due.none("ahead(61, -1)", () -> x.ahead(61, -1));
        TemperDowns y = Due.of("ball 0 9 holds 3;ball 0 9 holds 5;ball 0 9 holds 5;bursts day=2;");
        Due.is("of like ones the least", y.ahead(0, 1), 1);
        y.guard(1, true);
        Due.is("guarded or not", y.ahead(2, 1), 1);
        Due.is("all are white", y.ahead(3, 1), -1);
        Due.is("not calm on one of four", y.ahead(4, 0), 3);
    }

    private static void stays() {
        Due.promise("34");
        TemperDowns x = Due.of(ONE);
        int[] stays = {0, 1, 2, 2, 3, 4, 4, 5};
        for (int day = 1; day < stays.length; day++) {
            Due.is("outstayed in " + day, x.stays(0, day), stays[day]);
        }
        Due.is("outstayed in 60", x.stays(0, 60), 40);
        Due.wrong("stays(0, 0)", () -> x.stays(0, 0));
        Due.wrong("stays(0, 61)", () -> x.stays(0, 61));
        Due.none("stays(1, 0)", () -> x.stays(1, 0));
        Due.none("stays(-1, 61)", () -> x.stays(-1, 61));
        TemperDowns y = Due.of("person 0 0 0;ball 0 99;ball 0 99;ball 0 9 holds 9;rises 20;bursts 0;");
        Due.is("each counted", y.stays(0, 3), 1 + 2 + 2);
    }

    public static void main(String[] args) {
        then();
        mood();
        off();
        first();
        later();
        when();
        ahead();
        stays();
        Due.end();
    }
}
