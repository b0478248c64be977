/** Promise 27, its edges: none, the eighth day, of like ones the least. */
public final class Promise27Test {
    private static void look(TemperDowns x, int ball, int many) {
        Due.is("which", x.look(0), ball);
        Due.is("how many", x.look(1), many);
    }

    private static void noSuchWhat() {
        TemperDowns x = Due.of("person 0 5 0;ball 0 99;");
        Due.thrown(x, Due.NSE, () -> x.look(-1), () -> x.look(2), () -> x.look(Integer.MIN_VALUE));
    }

    private static void none() {
        look(new TemperDowns(), -1, 0);
        look(Due.of("person 0 5 0;"), -1, 0);
        look(Due.of("ball 0 9;"), -1, 0);
        TemperDowns x = Due.of("person 0 5 0;ball 0 99;");
        x.see(0, 0, false);
        look(x, -1, 0);
    }

    private static void allAlike() {
        look(Due.of("person 0 5 0;ball 0 9;ball 1 9;rises 0;"), 0, 1);
        look(Due.of("person 0 5 0;ball 0 9 holds 9;ball 1 9;rises 0;bursts 0;"), 0, 1);
    }

    private static void ofLikeOnesTheLeast() {
        look(Due.of("person 0 0 0;ball 15 99;ball 0 99;rises (day=0)*(mild+10);bursts 0;"), 0, 1);
        look(Due.of("person 0 0 20;ball 15 99;ball 0 99;rises (day=0)*(mild+11);bursts 0;"), 1, 9);
        look(Due.of("person 0 0 20;person 15 0 20;ball 15 99;ball 0 99;rises (day=0)*(mild+11);bursts 0;"),
                0, 10);
    }

    /** By the milds that could be so, not by the one that one has. */
    private static void byThese() {
        TemperDowns x = Due.of("person 0 0 20;ball 0 99;ball 1 99;rises (day=0)*(mild+1);bursts 0;");
        look(x, 0, 9);
        x.see(0, 1, false);
        look(x, 0, 9);
        TemperDowns y = Due.of("person 0 0 11;ball 0 99;rises (day=0)*(mild+1);bursts 0;");
        look(y, 0, 3);
        y.see(0, 1, false);
        look(y, 0, 2);
        y.forget();
        y.see(0, 1, true);
        look(y, 0, 1);
    }

    private static void behindEightDays() {
        TemperDowns x = Due.of("person 0 0 19;ball 0 99;rises (day=7)*(10+mild);bursts 0;");
        look(x, 0, 9);
        TemperDowns y = Due.of("person 0 0 19;ball 0 99;rises (day=8)*(10+mild);bursts 0;");
        look(y, 0, 1);
        TemperDowns z = Due.of("person 0 0 30;ball 0 99;rises (day=0)*(1+mild);bursts day=8;");
        look(z, 0, 9);
        TemperDowns q = Due.of("person 0 0 30;ball 0 99;rises (day=0)*(1+mild);bursts day=7;");
        look(q, 0, 1);
    }

    private static void byASingleOne() {
        TemperDowns x = Due.of("person 0 0 0;ball 3 99 holds 50;ball 0 99;rises (mild=9)*20;bursts 0;");
        x.see(1, 20, false);
        look(x, 0, 1);
    }

    private static void eachUnlikeNumber() {
        look(Due.of("person 0 0 12;ball 0 99;rises (day=0)*(mild=9)*20;bursts 0;"), 0, 2);
        look(Due.of("person 0 0 76;ball 0 99;rises (day=0)*(mild=9)*20;bursts 0;"), 0, 2);
        look(Due.of("person 0 0 79;ball 0 99;rises (day=0)*(11+mild);bursts 0;"), 0, 9);
        look(Due.of("person 0 0 21;ball 0 99;rises (day=0)*(2+mild);bursts 0;"), 0, 9);
        look(Due.of("person 0 0 85;ball 0 99;rises (day=0)*(5+mild);bursts 0;"), 0, 9);
    }

    /** What is seen behind more days counts, and still it is looked at behind eight. */
    private static void seenBehindMore() {
        TemperDowns x = Due.of("person 0 0 30;ball 0 99;rises (day=0)*(1+mild);bursts day=8;");
        x.see(0, 20, true);
        look(x, 0, 9);
        x.see(0, 8, false);
        look(x, 0, 9);
        x.see(0, 8, true);
        look(x, -1, 0);
    }

    private static void lastOfTen() {
        TemperDowns x = Due.of("person 15 0 80;" + "ball 0 99 holds 9;".repeat(9)
                + "ball 15 99;rises (day=0)*(10+mild);bursts 0;");
        look(x, 9, 9);
        TemperDowns y = Due.of("person 0 0 0;".repeat(6) + "person 15 0 80;" + "ball 0 99 holds 9;".repeat(9)
                + "ball 15 99;rises (19<temper)*(10+mild);bursts 0;");
        look(y, 9, 10);
    }

    private static void nothingChanges() {
        TemperDowns x = Due.of("person 0 5 0;ball 0 99;");
        x.see(0, 20, false);
        String before = Due.state(x);
        x.look(0);
        x.look(1);
        Due.is("all stays", Due.state(x).equals(before), true);
    }

    public static void main(String[] args) {
        Due.runAll(Promise27Test.class);
    }
}
