/** Promise 35, its edges: what is kept, in place of another one, by itself. */
public final class Promise35Test {
    private static final String TEXT = "downs 3 1;person 0 0 10;ball 0 99;ball 2 99 holds 50;";

    private static void itChangesNothing() {
        TemperDowns x = Due.of(TEXT);
        x.days(1);
        x.see(0, 1, true);
        String before = Due.state(x);
        x.image();
        x.image();
        Due.is("all stays", Due.state(x).equals(before), true);
        Due.is("no act", x.undo(), 0);
    }

    private static void inPlaceOfAnother() {
        TemperDowns x = Due.of(TEXT);
        x.image();
        x.soothe(0, 1);
        x.image();
        x.soothe(0, 2);
        for (int again = 0; again < 2; again++) {
            Due.is("restored", x.restore(), true);
            Due.is("the later one", x.person(0, 2), 1);
            Due.is("its acts", x.count(11), 1);
        }
    }

    private static void ofANewObject() {
        TemperDowns x = new TemperDowns();
        x.image();
        x.days(5);
        Due.is("restored", x.restore(), true);
        Due.is("the day", x.count(4), 0);
        Due.is("acts", x.count(11), 0);
    }

    private static void keptApart() {
        TemperDowns x = Due.of(TEXT);
        x.soothe(0, 1);
        x.see(0, 1, false);
        x.image();
        x.undo();
        x.forget();
        x.see(1, 2, false);
        x.see(1, 3, false);
        x.guard(0, true);
        x.days(20);
        x.restore();
        Due.is("acts", x.count(11), 1);
        Due.is("seen", x.count(12), 1);
        Due.is("what was seen", x.milder(2), 0);
        Due.is("guards", x.count(6), 0);
        Due.is("undone", x.undo(), 0);
        Due.is("as ahead of it", x.person(0, 2), 10);
    }

    private static void whatWasSeenIsKept() {
        TemperDowns x = Due.of(TEXT);
        x.see(0, 0, true);
        x.image();
        x.forget();
        x.see(0, 0, false);
        x.restore();
        Due.is("white or not", x.milder(2), 1);
        x.image();
        x.forget();
        x.see(1, 0, true);
        x.restore();
        Due.is("which", x.milder(2), 1);
        x.forget();
        x.see(0, 1, false);
        x.image();
        x.forget();
        x.see(1, 0, false);
        x.restore();
        Due.is("behind how many days", x.milder(2), 1);
    }

    private static void allThatIsKept() {
        TemperDowns x = Due.of(TEXT);
        x.days(3);
        x.tread(1);
        x.soothe(0, 77);
        x.days(1);
        x.carry(0, 1);
        x.guard(1, true);
        x.see(0, 3, false);
        String before = Due.state(x);
        x.image();
        x.forget();
        x.guard(1, false);
        x.guard(0, true);
        x.carry(0, 2);
        x.carry(1, 0);
        x.days(20);
        x.soothe(0, 5);
        Due.is("restored", x.restore(), true);
        Due.is("all as it was", Due.state(x).equals(before), true);
        for (int left = 5; left >= 0; left--) {
            Due.is("left", x.undo(), left);
        }
        Due.is("the day at first", x.count(4), 0);
        Due.is("temper at first", x.person(0, 2), 10);
    }

    private static void fortyActsAndEightSeen() {
        TemperDowns x = Due.of(TEXT);
        for (int i = 1; i <= 41; i++) {
            x.soothe(0, i);
        }
        for (int i = 0; i < 8; i++) {
            x.see(0, 0, true);
        }
        x.image();
        for (int i = 0; i < 40; i++) {
            x.days(1);
        }
        x.forget();
        Due.is("restored", x.restore(), true);
        Due.is("acts", x.count(11), 40);
        Due.is("seen", x.count(12), 8);
        Due.is("no ninth", x.see(0, 0, true), -1);
        for (int left = 39; left >= 0; left--) {
            Due.is("left", x.undo(), left);
            Due.is("temper as it was", x.person(0, 2), left + 1);
        }
        Due.is("the day", x.count(4), 0);
        Due.is("none", x.undo(), -1);
    }

    public static void main(String[] args) {
        Due.runAll(Promise35Test.class);
    }
}
