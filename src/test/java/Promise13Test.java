/** Promise 13, its edges: nothing to undo, more acts than are kept. */
public final class Promise13Test {
    private static final String TEXT = "downs 3 1;person 0 0 10;ball 0 99;ball 2 99 holds 50;";

    private static void thereIsNone() {
        TemperDowns x = Due.of(TEXT);
        String before = Due.state(x);
        Due.is("none", x.undo(), -1);
        Due.is("none again", x.undo(), -1);
        Due.is("all stays", Due.state(x).equals(before), true);
        Due.is("not counted by status", x.count(15), 0);
        x.soothe(0, 1);
        Due.is("one", x.undo(), 0);
        Due.is("none then", x.undo(), -1);
        Due.is("all is as it was", Due.state(x).equals(before), true);
    }

    private static void fortyAreKept() {
        TemperDowns x = Due.of(TEXT);
        for (int i = 1; i <= 40; i++) {
            x.soothe(0, i);
        }
        Due.is("kept", x.count(11), 40);
        for (int left = 39; left >= 0; left--) {
            Due.is("left", x.undo(), left);
            Due.is("temper", x.person(0, 2), left == 0 ? 10 : left);
        }
        Due.is("none", x.undo(), -1);
    }

    private static void theLatestOnesOfMore() {
        TemperDowns x = Due.of(TEXT);
        for (int i = 1; i <= 41; i++) {
            x.soothe(0, i);
        }
        Due.is("kept", x.count(11), 40);
        for (int left = 39; left >= 0; left--) {
            Due.is("left", x.undo(), left);
        }
        Due.is("none", x.undo(), -1);
        Due.is("the first one stays done", x.person(0, 2), 1);
    }

    private static void refusedOnesDontPushOut() {
        TemperDowns x = Due.of(TEXT);
        for (int i = 1; i <= 40; i++) {
            x.soothe(0, i);
        }
        x.soothe(0, 100);
        x.days(21);
        x.tread(0);
        x.carry(0, 0);
        x.guard(0, false);
        for (int left = 39; left >= 0; left--) {
            x.undo();
        }
        Due.is("all forty are undone", x.person(0, 2), 10);
    }

    private static void roomAgainWhenUndone() {
        TemperDowns x = Due.of(TEXT);
        for (int i = 1; i <= 45; i++) {
            x.soothe(0, i);
        }
        for (int i = 0; i < 20; i++) {
            x.undo();
        }
        Due.is("temper", x.person(0, 2), 25);
        for (int i = 1; i <= 21; i++) {
            x.guard(0, i % 2 == 1);
        }
        Due.is("kept", x.count(11), 40);
        for (int i = 0; i < 40; i++) {
            x.undo();
        }
        Due.is("as far as it goes", x.person(0, 2), 6);
        Due.is("no guards", x.count(6), 0);
        Due.is("none", x.undo(), -1);
    }

    private static boolean act(TemperDowns x, int i) {
        return i == 0 ? x.days(20) == 20 : i == 1 ? x.carry(1, 0) == 2 : x.soothe(0, 3) != -1;
    }

    private static void eachKindOfAct() {
        TemperDowns x = Due.of(TEXT);
        x.see(0, 1, true);
        String[] before = new String[3];
        for (int i = 0; i < 3; i++) {
            before[i] = Due.state(x);
            Due.is("act " + i + " is done", act(x, i), true);
        }
        for (int i = 2; i >= 0; i--) {
            Due.is("left", x.undo(), i);
            Due.is("as ahead of act " + i, Due.state(x).equals(before[i]), true);
        }
    }

    private static void treadingAndGuarding() {
        TemperDowns x = Due.of(TEXT);
        String before = Due.state(x);
        x.guard(0, true);
        String guarded = Due.state(x);
        Due.is("trodden", x.tread(1), 1);
        Due.is("left", x.undo(), 1);
        Due.is("as ahead of the tread", Due.state(x).equals(guarded), true);
        Due.is("left", x.undo(), 0);
        Due.is("as ahead of the guard", Due.state(x).equals(before), true);
    }

    private static void whatIsNoAct() {
        TemperDowns x = Due.of(TEXT);
        x.soothe(0, 1);
        x.see(0, 1, true);
        x.image();
        x.feed(0, 0, 0, 0, 0);
        x.years(1, 60, 0);
        Due.is("undone", x.undo(), 0);
        Due.is("seen stays", x.count(12), 1);
        Due.is("the tape stays", x.count(13), 20);
        Due.is("the image stays", x.restore(), true);
        Due.is("with its act", x.count(11), 1);
        x.forget();
        Due.is("undone", x.undo(), 0);
        Due.is("forgotten stays so", x.count(12), 0);
    }

    public static void main(String[] args) {
        Due.runAll(Promise13Test.class);
    }
}
