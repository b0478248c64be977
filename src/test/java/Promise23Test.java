/** Promise 23, its edges: none for one, none behind all, the first row. */
public final class Promise23Test {
    private static void row(String text, int... due) {
        TemperDowns x = Due.of(text);
        for (int person = 0; person < due.length; person++) {
            Due.is("which of " + person + " of " + text, x.put(person), due[person]);
        }
    }

    private static void noSuchPerson() {
        TemperDowns x = Due.of("person 0 0 0;".repeat(6) + "person 0 0 5;ball 0 9;");
        Due.is("the last", x.put(6), 0);
        Due.is("the first", x.put(0), -1);
        Due.thrown(x, Due.NSE, () -> x.put(-1), () -> x.put(7), () -> x.put(Integer.MAX_VALUE));
        TemperDowns y = Due.of("ball 0 9;");
        Due.thrown(y, Due.NSE, () -> y.put(0));
    }

    private static void none() {
        row("person 0 0 0;ball 0 9;", -1);
        row("person 0 0 10;ball 0 9;", -1);
        row("person 0 0 5;ball 0 9 holds 1;", -1);
        row("person 0 0 5;", -1);
    }

    private static void justLargeEnough() {
        row("person 0 0 9;ball 0 9;", 0);
        row("person 0 0 9;ball 0 8;ball 0 10;ball 0 9;", 2);
        row("person 0 0 99;ball 0 98;ball 0 99;", 1);
    }

    private static void noneIsBehindAll() {
        row("person 0 0 5;person 0 0 5;ball 0 9;", 0, -1);
        row("person 0 0 9;person 0 0 5;ball 0 9;", 0, -1);
        row("person 0 0 10;person 0 0 5;ball 0 9;", -1, 0);
        row("person 0 0 5;person 0 0 50;ball 0 50;ball 0 5;", 1, 0);
    }

    private static void ofLikeOnesTheFirst() {
        row("person 0 0 5;person 0 0 5;ball 0 9;ball 0 9;ball 0 9;", 0, 1);
        row("person 0 0 30;person 0 0 10;person 0 0 5;ball 0 40;ball 0 10;ball 0 30;", 0, 1, 2);
        row("person 0 0 5;person 0 0 5;ball 0 9;ball 0 8;ball 0 7;", 1, 2);
    }

    private static void inEachOrder() {
        String balls = "ball 0 30;ball 0 10;ball 0 20;";
        row("person 0 0 30;person 0 0 20;person 0 0 10;" + balls, 0, 2, 1);
        row("person 0 0 30;person 0 0 10;person 0 0 20;" + balls, 0, 1, 2);
        row("person 0 0 20;person 0 0 30;person 0 0 10;" + balls, 2, 0, 1);
        row("person 0 0 20;person 0 0 10;person 0 0 30;" + balls, 2, 1, 0);
        row("person 0 0 10;person 0 0 30;person 0 0 20;" + balls, 1, 0, 2);
        row("person 0 0 10;person 0 0 20;person 0 0 30;" + balls, 1, 2, 0);
        TemperDowns x = Due.of("person 0 0 30;person 0 0 20;person 0 0 10;" + balls);
        Due.is("as it is", x.put(0), 0);
        x.soothe(0, 10);
        x.soothe(2, 30);
        int[] due = {1, 2, 0};
        for (int person = 0; person < 3; person++) {
            Due.is("then " + person, x.put(person), due[person]);
        }
    }

    private static void notByFar() {
        row("person 0 0 5;ball 15 9;ball 0 9;", 0);
    }

    private static void sevenAndTen() {
        row("person 0 0 99;".repeat(7) + "ball 0 99;".repeat(10), 0, 1, 2, 3, 4, 5, 6);
        row("person 0 0 99;".repeat(7) + "ball 0 99 holds 1;".repeat(9) + "ball 0 99;",
                9, -1, -1, -1, -1, -1, -1);
        row("person 0 0 9;".repeat(6) + "person 0 0 1;" + "ball 0 9 holds 1;".repeat(8) + "ball 0 2;ball 0 9;",
                9, -1, -1, -1, -1, -1, 8);
    }

    public static void main(String[] args) {
        Due.runAll(Promise23Test.class);
    }
}
