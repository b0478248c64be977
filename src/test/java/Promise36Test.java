/** Promise 36, its edges: there is none, again and again, what isn't in an image. */
public final class Promise36Test {
    private static final String TEXT = "downs 3 1;person 0 0 10;ball 0 99;ball 2 99 holds 50;";

    private static void thereIsNone() {
        TemperDowns x = Due.of(TEXT);
        x.soothe(0, 3);
        x.see(0, 1, true);
        String before = Due.state(x);
        Due.is("false", x.restore(), false);
        Due.is("false again", x.restore(), false);
        Due.is("all stays", Due.state(x).equals(before), true);
        for (int what = 14; what <= 16; what++) {
            Due.is("not counted by status", x.count(what), 0);
        }
        Due.is("undone is what was done", x.undo(), 0);
    }

    private static void againAndAgain() {
        TemperDowns x = Due.of(TEXT);
        x.image();
        String before = Due.state(x);
        for (int again = 0; again < 3; again++) {
            x.days(4);
            x.see(0, 1, true);
            Due.is("restored", x.restore(), true);
            Due.is("all as it was", Due.state(x).equals(before), true);
        }
        Due.is("no act", x.undo(), -1);
    }

    private static void goneWithACounty() {
        TemperDowns x = Due.of(TEXT);
        x.image();
        Due.read(x, "x");
        Due.is("a fault leaves it", x.restore(), true);
        Due.wrong("an exception, too", () -> x.county(1));
        Due.is("it is there", x.restore(), true);
        x.county(0);
        Due.is("a county takes it", x.restore(), false);
        Due.is("nobody", x.count(0), 0);
        x.image();
        Due.is("a new one", x.restore(), true);
    }

    /** Status, the tape and the place of a fault are no part of an image. */
    private static void whatIsNotInIt() {
        TemperDowns x = Due.of(TEXT);
        x.image();
        Due.read(x, " x");
        x.days(0);
        x.see(0, 21, true);
        x.feed(0, 0, 0, 0, 0);
        Due.is("restored", x.restore(), true);
        Due.is("texts", x.count(14), 1);
        Due.is("acts", x.count(15), 1);
        Due.is("seen", x.count(16), 1);
        Due.is("tape", x.count(13), 20);
        Due.is("place", x.fault(), 1);
    }

    /** To restore is no act: what was done since is gone, and the image's acts are undone. */
    private static void noAct() {
        TemperDowns x = Due.of(TEXT);
        x.soothe(0, 1);
        x.image();
        x.soothe(0, 2);
        x.soothe(0, 3);
        x.restore();
        Due.is("acts", x.count(11), 1);
        Due.is("undone", x.undo(), 0);
        Due.is("temper", x.person(0, 2), 10);
        Due.is("and restored", x.restore(), true);
        Due.is("temper", x.person(0, 2), 1);
        Due.is("acts", x.count(11), 1);
    }

    public static void main(String[] args) {
        Due.runAll(Promise36Test.class);
    }
}
