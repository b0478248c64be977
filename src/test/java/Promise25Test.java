/** Promise 25, its edges: nothing seen, eight seen. */
public final class Promise25Test {
    private static void nothingSeen() {
        TemperDowns x = Due.of("person 0 5 0;ball 0 99;");
        String before = Due.state(x);
        x.forget();
        Due.is("all stays", Due.state(x).equals(before), true);
    }

    private static void eightSeen() {
        TemperDowns x = Due.of("person 0 5 0;ball 0 99;");
        String before = Due.state(x);
        for (int i = 0; i < 9; i++) {
            x.see(0, 0, false);
        }
        Due.is("not so", x.milder(2), 0);
        x.forget();
        Due.is("all as with nothing seen", Due.state(x).equals(before), true);
        Due.is("status stays", x.count(16), 1);
        Due.is("room for eight again", x.see(0, 0, true), 1);
        for (int i = 2; i <= 8; i++) {
            Due.is("seen", x.see(0, 0, true), i);
        }
        Due.is("no more", x.see(0, 0, true), -1);
    }

    private static void restoredFromAnImage() {
        TemperDowns x = Due.of("person 0 5 0;ball 0 99;");
        x.see(0, 0, false);
        x.image();
        x.forget();
        Due.is("forgotten", x.milder(2), 1);
        x.restore();
        Due.is("seen", x.count(12), 1);
        Due.is("as it was", x.milder(2), 0);
    }

    public static void main(String[] args) {
        Due.runAll(Promise25Test.class);
    }
}
