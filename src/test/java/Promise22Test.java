/** Promise 22, its edges: nobody, nothing white, just large enough, all full. */
public final class Promise22Test {
    private static void row(String text, int many, int more) {
        TemperDowns x = Due.of(text);
        Due.is("how many of " + text, x.putBy(0), many);
        Due.is("how much more of " + text, x.putBy(1), more);
    }

    private static void noSuchWhat() {
        TemperDowns x = Due.of("person 0 0 5;ball 0 9;");
        Due.thrown(x, Due.NSE, () -> x.putBy(-1), () -> x.putBy(2), () -> x.putBy(Integer.MAX_VALUE));
    }

    private static void nothingThere() {
        row("", 0, 0);
        row("person 0 0 5;", 0, 0);
        row("ball 0 9;", 0, 0);
        row("person 0 0 5;ball 0 9 holds 1;", 0, 0);
        row("person 0 0 0;ball 0 9;", 0, 0);
    }

    private static void temperAbove0() {
        row("person 0 0 1;ball 0 9;", 1, 8);
        row("person 0 0 0;person 0 0 1;ball 0 9;", 1, 8);
    }

    private static void sizeAsTemperOrMore() {
        row("person 0 0 9;ball 0 9;", 1, 0);
        row("person 0 0 10;ball 0 9;", 0, 0);
        row("person 0 0 99;ball 0 99;", 1, 0);
        row("person 0 0 1;ball 0 1;", 1, 0);
    }

    private static void noTwoToOne() {
        row("person 0 0 5;person 0 0 5;ball 0 99;", 1, 94);
        row("person 0 0 5;person 0 0 5;ball 0 99;ball 0 9;", 2, 98);
    }

    private static void asManyAsCanAheadOfSizes() {
        row("person 0 0 5;person 0 0 50;ball 0 5;ball 0 99;", 2, 49);
        row("person 0 0 60;person 0 0 50;ball 0 60;ball 0 55;", 2, 5);
        row("person 0 0 5;ball 0 99;ball 0 6;", 1, 1);
    }

    private static void guardedOrNot() {
        TemperDowns x = Due.of("person 0 0 5;ball 0 9;");
        x.guard(0, true);
        Due.is("how many", x.putBy(0), 1);
    }

    private static void sevenAndTen() {
        row("person 0 0 99;".repeat(7) + "ball 0 99;".repeat(10), 7, 0);
        row("person 0 0 1;".repeat(7) + "ball 0 99;".repeat(10), 7, 7 * 98);
        row("person 0 0 99;".repeat(7) + "ball 0 98;".repeat(10), 0, 0);
        row("person 0 0 1;".repeat(7) + "ball 0 99;".repeat(9) + "ball 0 1;", 7, 6 * 98);
        row("person 0 0 1;".repeat(7) + "ball 0 99 holds 1;".repeat(9) + "ball 0 1;", 1, 0);
    }

    /** Of rows alike in many and sizes the first one tells how much more. */
    private static void ofLikeOnesTheFirst() {
        row("person 0 0 5;person 0 0 9;ball 0 9;", 1, 4);
        row("person 0 0 9;person 0 0 5;ball 0 9;", 1, 0);
    }

    private static void askedAgain() {
        TemperDowns x = Due.of("person 0 0 5;person 0 0 7;ball 0 9;ball 0 9;");
        for (int again = 0; again < 2; again++) {
            Due.is("how many", x.putBy(0), 2);
            Due.is("how much more", x.putBy(1), 6);
        }
        x.soothe(0, 0);
        Due.is("how many then", x.putBy(0), 1);
        Due.is("how much more then", x.putBy(1), 2);
    }

    private static void nothingChanges() {
        TemperDowns x = Due.of("person 0 0 5;ball 0 9;");
        String before = Due.state(x);
        x.putBy(0);
        x.putBy(1);
        Due.is("all stays", Due.state(x).equals(before), true);
    }

    public static void main(String[] args) {
        Due.runAll(Promise22Test.class);
    }
}
