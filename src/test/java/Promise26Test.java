/** Promise 26, its edges: nothing seen, nobody, none, the first and the last of all. */
public final class Promise26Test {
    private static void milder(TemperDowns x, int many, int first, int without) {
        Due.is("how many", x.milder(0), many);
        Due.is("the first", x.milder(1), first);
        Due.is("without", x.milder(2), without);
    }

    private static void noSuchWhat() {
        TemperDowns x = Due.of("person 0 5 0;ball 0 99;");
        Due.thrown(x, Due.NSE, () -> x.milder(-1), () -> x.milder(3), () -> x.milder(Integer.MAX_VALUE));
    }

    private static void nobody() {
        TemperDowns x = Due.of("ball 0 9;");
        milder(x, 0, -1, 1);
        x.see(0, 0, true);
        milder(x, 0, -1, 1);
        x.see(0, 0, false);
        milder(x, 0, -1, 0);
    }

    private static void nothingSeen() {
        milder(Due.of("person 0 5 0;"), 9, 0, 1);
        milder(Due.of("person 0 0 0;"), 9, 1, 1);
        milder(Due.of("person 0 0 0;".repeat(7)), 63, 1, 1);
        milder(Due.of("person 0 9 5;".repeat(7)), 63, 0, 1);
    }

    private static void anotherThanOneHas() {
        TemperDowns x = Due.of("person 0 5 0;ball 0 99;rises (mild=5)*20;");
        x.see(0, 1, false);
        milder(x, 0, -1, 1);
        x.forget();
        x.see(0, 1, true);
        milder(x, 9, 0, 0);
    }

    private static void theLastOfAll() {
        TemperDowns x = Due.of("person 0 0 0;".repeat(6) + "person 15 0 0;ball 15 99;rises (mild=9)*20;");
        x.see(0, 1, false);
        milder(x, 7, 9, 0);
        x.soothe(6, 30);
        x.forget();
        x.see(0, 0, true);
        milder(x, 63, 1, 1);
        TemperDowns y = Due.of("person 0 9 0;person 0 8 0;ball 0 99;rises (mild=9)*(temper=19);");
        y.soothe(1, 19);
        y.see(0, 1, false);
        milder(y, 1, 19, 0);
    }

    private static void tenByWho() {
        TemperDowns x = Due.of("person 0 9 0;".repeat(6) + "person 0 9 1;ball 0 99;rises (mild=0)*temper*19;");
        x.see(0, 1, false);
        milder(x, 1, 60, 0);
    }

    private static void behindNoDays() {
        TemperDowns x = Due.of("person 0 9 0;ball 0 9 holds 5;ball 1 9;");
        x.see(0, 0, false);
        x.see(1, 0, true);
        milder(x, 9, 0, 1);
        x.see(0, 0, true);
        milder(x, 0, -1, 0);
    }

    private static void behindTwentyDays() {
        TemperDowns x = Due.of("person 0 9 1;ball 0 99;bursts 0;");
        x.see(0, 19, false);
        milder(x, 9, 0, 1);
        TemperDowns y = Due.of("person 0 9 0;ball 0 99;bursts 0;");
        y.see(0, 20, false);
        milder(y, 9, 0, 1);
        y.forget();
        y.see(0, 19, true);
        milder(y, 0, -1, 1);
        y.forget();
        y.see(0, 20, true);
        milder(y, 0, -1, 0);
        y.days(1);
        milder(y, 0, -1, 0);
    }

    private static void fromNowOn() {
        TemperDowns x = Due.of("person 0 9 0;ball 0 99;bursts 0;");
        x.see(0, 2, false);
        milder(x, 1, 0, 0);
        x.days(1);
        milder(x, 1, 0, 0);
        x.soothe(0, 2);
        milder(x, 2, 0, 0);
    }

    private static void nothingChanges() {
        TemperDowns x = Due.of("person 0 5 0;ball 0 99;");
        x.see(0, 20, false);
        String before = Due.state(x);
        x.milder(0);
        x.milder(1);
        x.milder(2);
        Due.is("all stays", Due.state(x).equals(before), true);
        Due.is("mild", x.person(0, 1), 5);
    }

    public static void main(String[] args) {
        Due.runAll(Promise26Test.class);
    }
}
