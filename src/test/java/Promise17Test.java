/** Promise 17, its edges: of like ones the least, the last day, none. */
public final class Promise17Test {
    private static void none() {
        Due.is("no puffballs", new TemperDowns().first(), -1);
        Due.is("white ones", Due.of("ball 0 9;bursts 1;").first(), -1);
        Due.is("never", Due.of("ball 0 9 holds 4;bursts 0;").first(), -1);
        Due.is("behind 60 days", Due.of("ball 0 9 holds 4;bursts day=60;").first(), -1);
    }

    private static void onTheLastDay() {
        Due.is("the sixtieth", Due.of("ball 0 9;ball 0 9 holds 4;bursts day=59;").first(), 1);
    }

    private static void ofLikeOnesTheLeast() {
        StringBuilder text = new StringBuilder("ball 15 9;");
        for (int ball = 1; ball < 10; ball++) {
            text.append("ball ").append(ball).append(" 9 holds 5;");
        }
        Due.is("of nine", Due.of(text.toString()).first(), 1);
        Due.is("the last alone", Due.of("ball 0 9;".repeat(9) + "ball 0 9 holds 9;").first(), 9);
    }

    private static void theFirstAlone() {
        Due.is("it goes off", Due.of("ball 0 9 holds 5;ball 1 9;").first(), 0);
    }

    private static void firstByDays() {
        Due.is("the greater, but ahead",
                Due.of("ball 0 9 holds 4;ball 1 9 holds 5;bursts holds+age=8;").first(), 1);
    }

    private static void setOffOrNot() {
        TemperDowns x = Due.of("downs 2 1;ball 0 9 holds 4;ball 1 99 holds 10;bursts holds=10;");
        Due.is("set off", x.first(), 0);
        x.guard(0, true);
        Due.is("not a guarded one", x.first(), 1);
    }

    private static void nothingChanges() {
        TemperDowns x = Due.of("person 0 0 0;ball 0 99 holds 5;");
        String before = Due.state(x);
        x.first();
        Due.is("all stays", Due.state(x).equals(before), true);
    }

    public static void main(String[] args) {
        Due.runAll(Promise17Test.class);
    }
}
