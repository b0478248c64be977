/** Promise 1, its edges: nothing is there yet. */
public final class Promise01Test {
    private static void fourByFourCells() {
        TemperDowns x = new TemperDowns();
        Due.is("W", x.count(2), 4);
        Due.is("H", x.count(3), 4);
        Due.is("first cell", x.cell(0, 0), 0);
        Due.is("last cell", x.cell(15, 0), 0);
        Due.thrown(x, Due.NSE, () -> x.cell(16, 0), () -> x.cell(-1, 0), () -> x.pram(0, 16, 0),
                () -> x.pram(16, 0, 0), () -> x.pram(-1, 0, 0), () -> x.pram(0, -1, 0));
        Due.is("as long as it gets", x.pram(0, 15, 0), 6);
        Due.is("the other way", x.pram(12, 3, 0), 6);
    }

    private static void allCountsAreNothing() {
        TemperDowns x = new TemperDowns();
        for (int what = 0; what <= 16; what++) {
            Due.is("count " + what, x.count(what), what == 2 || what == 3 ? 4 : 0);
        }
        Due.is("NONE", TemperDowns.NONE, -1);
        Due.is("fault", x.fault(), -1);
    }

    private static void nobody() {
        TemperDowns x = new TemperDowns();
        Due.thrown(x, Due.NSE, () -> x.person(0, 0), () -> x.soothe(0, 0), () -> x.mood(0, 0, 0),
                () -> x.put(0), () -> x.game(0, 1, 0), () -> x.when(0, 0), () -> x.stays(0, 1));
        Due.is("crossest", x.later(60, 3), -1);
        Due.is("milder", x.milder(0), 0);
        Due.is("the first", x.milder(1), -1);
        Due.is("so without", x.milder(2), 1);
        Due.is("put by", x.putBy(0), 0);
        Due.is("wasted", x.putBy(1), 0);
    }

    private static void noPuffballs() {
        TemperDowns x = new TemperDowns();
        Due.thrown(x, Due.NSE, () -> x.ball(0, 0), () -> x.tread(0), () -> x.carry(0, 0),
                () -> x.guard(0, true), () -> x.guard(0, false), () -> x.then(0, 0, 0), () -> x.off(0),
                () -> x.toGuard(0, 0), () -> x.fire(0, 0), () -> x.see(0, 0, true),
                () -> x.boys(0, 1, 1));
        Due.is("first", x.first(), -1);
        Due.is("often", x.later(60, 0), 0);
        Due.is("held", x.later(60, 1), 0);
        Due.is("white ones", x.later(60, 2), 0);
        Due.is("near", x.cell(0, 1), -1);
        Due.is("fullest", x.ahead(60, 1), -1);
        Due.is("look", x.look(0), -1);
        Due.is("unlike", x.look(1), 0);
    }

    private static void nothingDoneNothingKept() {
        TemperDowns x = new TemperDowns();
        Due.is("undo", x.undo(), -1);
        Due.is("restore", x.restore(), false);
        x.forget();
        Due.is("calm", x.ahead(60, 0), 60);
        Due.is("years off", x.years(1, 60, 0), 0);
        Due.is("years shouts", x.years(1, 60, 1), 0);
        Due.is("years temper", x.years(1, 60, 2), 0);
        Due.is("days", x.days(20), 20);
        Due.is("undone", x.undo(), 0);
        Due.is("the day", x.count(4), 0);
    }

    private static void objectsAreApart() {
        TemperDowns x = Due.of("downs 2 3;person 0 0 5;ball 0 9 holds 5;");
        x.days(1);
        TemperDowns y = new TemperDowns();
        Due.is("W of another", y.count(2), 4);
        Due.is("nobody in another", y.count(0), 0);
        Due.is("day of another", y.count(4), 0);
        y.days(5);
        Due.is("day of the first", x.count(4), 1);
    }

    public static void main(String[] args) {
        Due.runAll(Promise01Test.class);
    }
}
