/** Promises 5 to 13, 35 and 36: what is so now, acts, undoing, the image. */
public final class ActsTest {
    /** Puffball 1 reaches 2, but not the other way; it is heard by both, 2 by person 1 alone. */
    private static final String THREE_BY_TWO = "downs 3 2;person 0 3 15;person 5 9 4;"
            + "ball 1 20;ball 2 50 holds 25;ball 4 40 holds 12;";

    private static void counts() {
        Due.promise("5");
        TemperDowns x = Due.of(THREE_BY_TWO);
        int[] due = {2, 3, 3, 2, 0, 1, 0, 37, 19, 0, 2, 0, 0, 0, 0, 0, 0};
        for (int i = 0; i < due.length; i++) {
            Due.is("count " + i, x.count(i), due[i]);
        }
        Due.none("count(-1)", () -> x.count(-1));
        Due.none("count(17)", () -> x.count(17));
        x.guard(2, true);
        Due.is("guarded", x.count(6), 4);
        Due.is("all at once but the guarded one", x.count(10), 2);
        x.guard(1, true);
        Due.is("both guarded", x.count(6), 6);
        Due.is("nothing to go off", x.count(10), 0);
        x.soothe(0, 95);
        x.days(1);
        Due.is("the day", x.count(4), 1);
        Due.is("temper", x.count(8), 54);
        Due.is("shouted", x.count(9), 1);
        Due.is("acts", x.count(11), 4);
        x.see(0, 0, true);
        Due.is("seen", x.count(12), 1);
        x.feed(0, 0, 0, 0, 0);
        Due.is("tape", x.count(13), 20);
        x.county(1);
        x.days(0);
        x.days(0);
        x.see(0, 21, true);
        Due.is("status 0", x.count(14), 1);
        Due.is("status 1", x.count(15), 2);
        Due.is("status 2", x.count(16), 1);
    }

    private static void allAtOnce() {
        TemperDowns x = Due.of("downs 6 1;ball 0 9 holds 9;ball 1 19 holds 10;ball 2 9 holds 9;"
                + "ball 4 9 holds 9;ball 5 19 holds 19;ball 3 9;");
        Due.is("two are enough", x.count(10), 2 + 16);
        x.guard(1, true);
        Due.is("others must themselves", x.count(10), 1 + 4 + 16);
        TemperDowns y = Due.of("ball 0 9 holds 1;ball 0 9 holds 1;ball 0 9 holds 1;");
        Due.is("of like ones the least", y.count(10), 1);
        y.guard(0, true);
        Due.is("guarded ones aren't fired", y.count(10), 2);
    }

    private static void people() {
        Due.promise("6");
        TemperDowns x = Due.of(THREE_BY_TWO);
        int[] due = {0, 3, 15, 0, 0, 0, 0};
        for (int i = 0; i < due.length; i++) {
            Due.is("person(0, " + i + ")", x.person(0, i), due[i]);
        }
        Due.is("home of 1", x.person(1, 0), 5);
        Due.none("person(2, 0)", () -> x.person(2, 0));
        Due.none("person(-1, 0)", () -> x.person(-1, 0));
        Due.none("person(0, 7)", () -> x.person(0, 7));
        Due.none("person(0, -1)", () -> x.person(0, -1));
        x.soothe(0, 21);
        Due.is("none large enough", x.person(0, 6), -1);
        x.soothe(0, 0);
        Due.is("any white one will do", x.person(0, 6), 0);
        x.soothe(0, 13);
        x.days(1);
        Due.is("one's own", x.person(0, 5), 1);
        Due.is("not another one's", x.person(1, 5), 0);
        Due.is("temper put by", x.person(0, 2), 0);
        TemperDowns y = Due.of("downs 3 1;person 1 0 5;ball 2 9;ball 0 9;ball 1 4;");
        Due.is("of like ones the least", y.person(0, 6), 0);
        y.guard(0, true);
        Due.is("guarded or not", y.person(0, 6), 0);
        y.soothe(0, 4);
        Due.is("the nearest", y.person(0, 6), 2);
        y.soothe(0, 9);
        Due.is("just large enough", y.person(0, 6), 0);
        y.soothe(0, 10);
        Due.is("too great", y.person(0, 6), -1);
    }

    private static void balls() {
        Due.promise("7");
        TemperDowns x = Due.of(THREE_BY_TWO);
        int[] due = {2, 50, 25, 0, -1, 0, 6, 3};
        for (int i = 0; i < due.length; i++) {
            Due.is("ball(1, " + i + ")", x.ball(1, i), due[i]);
        }
        Due.is("set off by 2", x.ball(2, 6), 4);
        Due.is("who hears 2", x.ball(2, 7), 2);
        Due.is("set off by a white one", x.ball(0, 6), 0);
        Due.is("who hears a white one", x.ball(0, 7), 0);
        Due.none("ball(3, 0)", () -> x.ball(3, 0));
        Due.none("ball(-1, 0)", () -> x.ball(-1, 0));
        Due.none("ball(0, 8)", () -> x.ball(0, 8));
        Due.none("ball(0, -1)", () -> x.ball(0, -1));
        x.guard(2, true);
        Due.is("guarded", x.ball(2, 5), 1);
        Due.is("a guarded one isn't set off", x.ball(1, 6), 2);
        Due.is("it sets off itself", x.ball(2, 6), 4);
        x.soothe(0, 13);
        x.days(1);
        Due.is("holds", x.ball(0, 2), 20);
        Due.is("age", x.ball(0, 3), 1);
        Due.is("whose", x.ball(0, 4), 0);
    }

    private static void days() {
        Due.promise("8");
        TemperDowns x = new TemperDowns();
        Due.is("0 days", x.days(0), -1);
        Due.is("21 days", x.days(21), -1);
        Due.is("-1 days", x.days(-1), -1);
        Due.is("many days", x.days(Integer.MAX_VALUE), -1);
        Due.is("status", x.count(15), 4);
        Due.is("no act", x.count(11), 0);
        for (int i = 1; i <= 499; i++) {
            Due.is("days(20)", x.days(20), 20 * i);
        }
        Due.is("beyond 9999", x.days(20), -1);
        Due.is("to 9999", x.days(19), 9999);
        Due.is("beyond", x.days(1), -1);
        Due.is("the day stays", x.count(4), 9999);
    }

    private static void manyAreHeard() {
        TemperDowns x = Due.of("person 0 0 0;".repeat(7) + "ball 0 99;".repeat(7) + "rises 20;bursts 1;");
        x.days(2);
        Due.is("heard", x.person(6, 4), 14);
        Due.is("temper", x.person(6, 2), 35);
        for (int i = 0; i < 72; i++) {
            x.days(20);
        }
        Due.is("heard 9999 at most", x.person(6, 4), 9999);
        Due.is("temper still rises", x.person(6, 2), 35);
        Due.is("nobody shouted", x.count(9), 0);
    }

    private static void treading() {
        Due.promise("9");
        TemperDowns x = Due.of(THREE_BY_TWO);
        Due.is("white", x.tread(0), -1);
        Due.none("tread(3)", () -> x.tread(3));
        Due.none("tread(-1)", () -> x.tread(-1));
        x.guard(1, true);
        Due.is("guarded", x.tread(1), -1);
        Due.is("status", x.count(15), 2);
        Due.is("acts", x.count(11), 1);
        x.guard(1, false);
        x.soothe(0, 97);
        Due.is("both go off", x.tread(1), 2);
        Due.is("0 heard one", x.person(0, 4), 1);
        Due.is("temper 99 at most", x.person(0, 2), 99);
        Due.is("1 heard two", x.person(1, 4), 2);
        Due.is("temper is 5 more for each", x.person(1, 2), 14);
        Due.is("all are white", x.count(5), 7);
        Due.is("white now", x.tread(1), -1);
        TemperDowns y = Due.of(THREE_BY_TWO);
        y.guard(2, true);
        Due.is("a guarded one isn't set off", y.tread(1), 1);
        Due.is("it holds on", y.ball(2, 2), 12);
        TemperDowns z = Due.of("person 0 0 20;ball 0 20;");
        z.soothe(0, 10);
        z.days(3);
        Due.is("of age", z.ball(0, 3), 3);
        Due.is("trodden", z.tread(0), 1);
        Due.is("age 0", z.ball(0, 3), 0);
        Due.is("nobody's", z.ball(0, 4), -1);
    }

    private static void carrying() {
        Due.promise("10");
        TemperDowns x = Due.of(THREE_BY_TWO);
        x.days(2);
        Due.is("carried", x.carry(1, 0), 2);
        Due.is("cell", x.ball(1, 0), 0);
        Due.is("holds", x.ball(1, 2), 25);
        Due.is("age", x.ball(1, 3), 2);
        Due.is("it is there", x.carry(1, 0), -1);
        Due.is("status", x.count(15), 1);
        Due.is("acts", x.count(11), 2);
        Due.none("carry(3, 0)", () -> x.carry(3, 0));
        Due.none("carry(-1, 0)", () -> x.carry(-1, 0));
        Due.none("carry(0, 6)", () -> x.carry(0, 6));
        Due.none("carry(0, -1)", () -> x.carry(0, -1));
        Due.is("status stays", x.count(15), 1);
        x.guard(1, true);
        Due.is("a guarded one, back", x.carry(1, 5), 0);
        Due.is("guarded as before", x.count(6), 2);
    }

    private static void guarding() {
        Due.promise("11");
        TemperDowns x = Due.of(THREE_BY_TWO);
        Due.is("not guarded already", x.guard(0, false), false);
        Due.is("guarded", x.guard(0, true), true);
        Due.is("guarded already", x.guard(0, true), false);
        Due.is("status", x.count(15), 2);
        Due.is("acts", x.count(11), 1);
        Due.is("another one", x.guard(2, true), true);
        Due.is("bits", x.count(6), 5);
        Due.is("no more", x.guard(0, false), true);
        Due.is("bits then", x.count(6), 4);
        Due.none("guard(3)", () -> x.guard(3, true));
        Due.none("guard(-1)", () -> x.guard(-1, false));
        x.days(10);
        Due.is("gone off", x.ball(2, 2), 0);
        Due.is("guarded as before", x.ball(2, 5), 1);
    }

    private static void soothing() {
        Due.promise("12");
        TemperDowns x = Due.of(THREE_BY_TWO);
        Due.is("soothed", x.soothe(0, 99), 15);
        Due.is("soothed again", x.soothe(0, 0), 99);
        Due.is("as it is", x.soothe(0, 0), 0);
        Due.is("acts", x.count(11), 3);
        Due.is("100", x.soothe(0, 100), -1);
        Due.is("-1", x.soothe(0, -1), -1);
        Due.is("status", x.count(15), 2);
        Due.is("temper stays", x.person(0, 2), 0);
        Due.none("soothe(2, 100)", () -> x.soothe(2, 100));
        Due.none("soothe(-1, 0)", () -> x.soothe(-1, 0));
        Due.is("status stays", x.count(15), 2);
    }

    private static String all(TemperDowns x) {
        StringBuilder s = new StringBuilder();
        for (int i = 0; i <= 10; i++) {
            s.append(x.count(i)).append(' ');
        }
        for (int p = 0; p < x.count(0); p++) {
            for (int i = 0; i <= 6; i++) {
                s.append(x.person(p, i)).append(' ');
            }
        }
        for (int b = 0; b < x.count(1); b++) {
            for (int i = 0; i <= 7; i++) {
                s.append(x.ball(b, i)).append(' ');
            }
        }
        return s.toString();
    }

    private static int act(TemperDowns x, int i) {
        switch (i) {
            case 0: return x.days(7);
            case 1: return x.tread(1);
            case 2: return x.carry(2, 0);
            case 3: return x.guard(0, true) ? 0 : -1;
            case 4: return x.soothe(1, 50);
            default: return x.days(20);
        }
    }

    /** Another object, for one answers 512 calls at most: so many acts are done. */
    private static TemperDowns behind(int acts) {
        TemperDowns x = Due.of(THREE_BY_TWO);
        for (int i = 0; i < acts; i++) {
            act(x, i);
        }
        return x;
    }

    private static void undoing() {
        Due.promise("13");
        TemperDowns done = Due.of(THREE_BY_TWO);
        for (int i = 0; i < 6; i++) {
            Due.is("act " + i + " is done", act(done, i) != -1, true);
        }
        for (int i = 5; i >= 0; i--) {
            Due.is("left", done.undo(), i);
            Due.is("all as before act " + i, all(done).equals(all(behind(i))), true);
        }
        Due.is("none", done.undo(), -1);
        Due.is("no status", done.count(15), 0);
        TemperDowns x = Due.of(THREE_BY_TWO);
        for (int i = 1; i <= 45; i++) {
            x.soothe(0, i);
        }
        Due.is("40 are kept", x.count(11), 40);
        for (int i = 39; i >= 0; i--) {
            Due.is("left of 40", x.undo(), i);
        }
        Due.is("the latest ones", x.person(0, 2), 5);
        Due.is("none more", x.undo(), -1);
        x.see(0, 1, true);
        x.soothe(0, 1);
        x.see(0, 2, true);
        x.undo();
        Due.is("what is seen stays", x.count(12), 2);
    }

    private static void image() {
        Due.promise("35");
        TemperDowns x = Due.of(THREE_BY_TWO);
        Due.is("no image", x.restore(), false);
        String atFirst = all(behind(0));
        String behindDays = all(behind(1));
        act(x, 0);
        act(x, 3);
        x.see(1, 3, false);
        String before = all(x);
        x.image();
        Due.is("all stays", all(x).equals(before), true);
        for (int i = 1; i < 6; i++) {
            act(x, i);
        }
        x.see(1, 4, false);
        x.days(0);
        Due.promise("36");
        for (int again = 0; again < 2; again++) {
            Due.is("restored", x.restore(), true);
            Due.is("all as it was", all(x).equals(before), true);
            Due.is("acts", x.count(11), 2);
            Due.is("seen", x.count(12), 1);
            Due.is("status stays", x.count(15), again == 0 ? 2 : 4);
            Due.is("an act of the image is undone", x.undo(), 1);
            Due.is("all as behind the first", all(x).equals(behindDays), true);
            Due.is("the other", x.undo(), 0);
            Due.is("all as at first", all(x).equals(atFirst), true);
            x.soothe(0, 77);
            x.forget();
            x.days(0);
            x.days(0);
        }
        x.image();
        x.soothe(0, 1);
        Due.is("restored", x.restore(), true);
        Due.is("another image", x.person(0, 2), 77);
        Due.is("its acts", x.count(11), 1);
        Due.is("nothing seen in it", x.count(12), 0);
        Due.read(x, "x");
        Due.is("a fault leaves it", x.restore(), true);
        Due.read(x, THREE_BY_TWO);
        Due.is("a county takes it away", x.restore(), false);
    }

    public static void main(String[] args) {
        counts();
        allAtOnce();
        people();
        balls();
        days();
        manyAreHeard();
        treading();
        carrying();
        guarding();
        soothing();
        undoing();
        image();
        Due.end();
    }
}
