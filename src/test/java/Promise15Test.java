/** Promise 15, its edges: 0 to 60 days, exceptions in their order. */
public final class Promise15Test {
    private static void zeroToSixtyDays() {
        TemperDowns x = Due.of("person 0 0 4;ball 0 9 holds 5;rises (day=59)*18;bursts day=59;");
        for (int what = 0; what <= 2; what++) {
            int w = what;
            Due.thrown(x, Due.IAE, () -> x.mood(0, -1, w), () -> x.mood(0, 61, w),
                    () -> x.mood(0, Integer.MAX_VALUE, w), () -> x.mood(0, Integer.MIN_VALUE, w));
        }
        int[] now = {4, 0, 0};
        int[] due = {16, 1, 1};
        for (int what = 0; what <= 2; what++) {
            Due.is("now, what " + what, x.mood(0, 0, what), now[what]);
            Due.is("behind 59, what " + what, x.mood(0, 59, what), now[what]);
            Due.is("behind 60, what " + what, x.mood(0, 60, what), due[what]);
        }
    }

    private static void nowIsAsItIs() {
        TemperDowns x = Due.of("person 0 0 40;ball 0 9 holds 5;rises 0;");
        x.days(1);
        x.tread(0);
        Due.is("temper", x.mood(0, 0, 0), 25);
        Due.is("shouted", x.mood(0, 0, 1), 1);
        Due.is("heard", x.mood(0, 0, 2), 1);
    }

    private static void noSuchPerson() {
        TemperDowns x = Due.of("person 0 0 1;".repeat(6) + "person 0 0 7;");
        Due.is("the last", x.mood(6, 0, 0), 7);
        Due.thrown(x, Due.NSE, () -> x.mood(-1, 0, 0), () -> x.mood(7, 0, 0), () -> x.mood(7, 61, 0),
                () -> x.mood(-1, -1, 2), () -> x.mood(7, -1, 3));
    }

    private static void noSuchWhat() {
        TemperDowns x = Due.of("person 0 0 1;");
        Due.thrown(x, Due.NSE, () -> x.mood(0, 0, -1), () -> x.mood(0, 60, 3), () -> x.mood(0, 61, 3),
                () -> x.mood(0, -1, -1), () -> x.mood(0, -1, Integer.MIN_VALUE));
    }

    private static void nothingChanges() {
        TemperDowns x = Due.of("person 0 0 0;ball 0 99;rises 20;bursts age-2;");
        String before = Due.state(x);
        Due.is("heard", x.mood(0, 60, 2), 20);
        Due.is("all stays", Due.state(x).equals(before), true);
    }

    public static void main(String[] args) {
        Due.runAll(Promise15Test.class);
    }
}
