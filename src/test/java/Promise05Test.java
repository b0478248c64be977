/** Promise 5, its edges: each count with nothing there and with all full. */
public final class Promise05Test {
    private static final String FULL = "downs 6 6;" + "person 35 0 99;".repeat(7) + "ball 35 99 holds 99;".repeat(10);

    private static void whats() {
        TemperDowns x = Due.of("person 0 0 1;ball 0 9 holds 5;");
        x.count(0);
        x.count(16);
        Due.thrown(x, Due.NSE, () -> x.count(-1), () -> x.count(17), () -> x.count(Integer.MAX_VALUE),
                () -> x.count(Integer.MIN_VALUE));
    }

    private static void nothing() {
        TemperDowns x = Due.of("downs 1 1;");
        for (int what = 0; what <= 16; what++) {
            Due.is("count " + what, x.count(what), what == 2 || what == 3 ? 1 : 0);
        }
    }

    private static void allFull() {
        TemperDowns x = Due.of(FULL);
        int[] due = {7, 10, 6, 6, 0, 0, 0, 990, 693, 0, 1, 0, 0, 0, 0, 0, 0};
        for (int what = 0; what < due.length; what++) {
            Due.is("count " + what, x.count(what), due[what]);
        }
    }

    private static void whiteOnes() {
        TemperDowns x = Due.of("ball 0 1;".repeat(10));
        Due.is("all", x.count(5), 1023);
        Due.is("nothing held", x.count(7), 0);
        TemperDowns y = Due.of("ball 0 1 holds 1;" + "ball 1 1;".repeat(8) + "ball 2 1 holds 1;");
        Due.is("all but the first and the last", y.count(5), 1023 - 1 - 512);
        y.tread(9);
        Due.is("the last, too", y.count(5), 1023 - 1);
        y.guard(1, true);
        Due.is("guarded or not", y.count(5), 1023 - 1);
    }

    private static void guardedOnes() {
        TemperDowns x = Due.of(FULL);
        for (int ball = 0; ball < 10; ball++) {
            x.guard(ball, true);
            Due.is("up to " + ball, x.count(6), (2 << ball) - 1);
        }
        x.guard(0, false);
        Due.is("without the first", x.count(6), 1022);
    }

    private static void shoutedByAll() {
        TemperDowns x = Due.of("person 35 0 99;".repeat(7).replace("35", "15"));
        x.days(20);
        int sum = 0;
        for (int person = 0; person < 7; person++) {
            sum += x.person(person, 3);
        }
        int temper = 0;
        for (int person = 0; person < 7; person++) {
            temper += x.person(person, 2);
        }
        Due.is("temper of all", x.count(8), temper);
        Due.is("one's", x.person(6, 3), sum / 7);
        Due.is("all", x.count(9), sum);
        Due.is("some", sum > 0, true);
    }

    private static void heardIsNotShouted() {
        TemperDowns x = Due.of("person 0 0 0;".repeat(7) + "ball 0 9 holds 1;");
        x.tread(0);
        Due.is("heard", x.person(0, 4), 1);
        Due.is("nobody shouted", x.count(9), 0);
        Due.is("temper of all", x.count(8), 35);
    }

    private static void allAtOnceNothing() {
        TemperDowns x = Due.of("ball 0 9;ball 0 9 holds 9;");
        x.guard(1, true);
        Due.is("white and guarded alone", x.count(10), 0);
        x.guard(1, false);
        Due.is("one", x.count(10), 2);
    }

    private static void allAtOnceEachByItself() {
        StringBuilder text = new StringBuilder("downs 6 2;");
        for (int ball = 0; ball < 10; ball++) {
            text.append("ball ").append(ball).append(" 9 holds 9;");
        }
        TemperDowns x = Due.of(text.toString());
        Due.is("all ten", x.count(10), 1023);
        x.guard(0, true);
        x.guard(9, true);
        Due.is("but guarded ones", x.count(10), 1023 - 1 - 512);
    }

    private static void allAtOnceLastOfTen() {
        TemperDowns x = Due.of("downs 6 1;" + "ball 0 9 holds 9;".repeat(9) + "ball 5 99 holds 50;");
        Due.is("the last sets off all", x.count(10), 512);
        x.carry(9, 1);
        Due.is("one of the others doesn't", x.count(10), 512);
        TemperDowns y = Due.of("downs 6 1;" + "ball 0 9 holds 9;".repeat(9) + "ball 5 99 holds 49;");
        Due.is("just out of its reach", y.count(10), 1 + 512);
    }

    private static void allAtOnceFewestThenLeast() {
        TemperDowns x = Due.of("downs 3 1;ball 0 9 holds 1;ball 2 9 holds 1;ball 1 19 holds 10;");
        Due.is("one is fewer than two", x.count(10), 4);
        TemperDowns y = Due.of("downs 2 1;ball 0 19 holds 10;ball 1 19 holds 10;");
        Due.is("of like ones the least", y.count(10), 1);
        y.guard(0, true);
        Due.is("not by a guarded one", y.count(10), 2);
        TemperDowns z = Due.of("downs 3 1;ball 0 9 holds 9;ball 1 19 holds 10;ball 2 9 holds 9;");
        z.guard(1, true);
        Due.is("not through a guarded one", z.count(10), 1 + 4);
    }

    private static void actsThatAreKept() {
        TemperDowns x = Due.of("person 0 0 0;ball 0 9 holds 9;");
        for (int i = 1; i <= 42; i++) {
            x.soothe(0, i);
            Due.is("acts", x.count(11), Math.min(i, 40));
        }
        Due.refused(x, 1, () -> x.days(0));
        Due.is("refused ones aren't", x.count(11), 40);
    }

    private static void seen() {
        TemperDowns x = Due.of("ball 0 9;");
        for (int i = 1; i <= 8; i++) {
            x.see(0, 0, true);
            Due.is("seen", x.count(12), i);
        }
        x.see(0, 0, true);
        Due.is("seen at most", x.count(12), 8);
    }

    private static void statusByKind() {
        TemperDowns x = Due.of("person 0 0 0;ball 0 9;");
        Due.read(x, "x");
        Due.is("texts", x.count(14), 1);
        Due.is("acts", x.count(15), 0);
        Due.is("sights", x.count(16), 0);
        x.days(0);
        x.tread(0);
        x.carry(0, 0);
        x.guard(0, false);
        x.soothe(0, 100);
        Due.is("acts", x.count(15), 5);
        Due.is("sights", x.count(16), 0);
        x.see(0, 21, true);
        Due.is("sights", x.count(16), 1);
        x.undo();
        x.restore();
        x.off(0);
        x.put(0);
        Due.is("texts stay", x.count(14), 1);
        Due.is("acts stay", x.count(15), 5);
        Due.is("sights stay", x.count(16), 1);
    }

    public static void main(String[] args) {
        Due.runAll(Promise05Test.class);
    }
}
