/** Promise 30, its edges: 0 to 60 days, seeds of all kinds, nobody, no puffballs. */
public final class Promise30Test {
    private static final int[] SEEDS = {0, 1, -1, 42, 65535, 65536, Integer.MAX_VALUE, Integer.MIN_VALUE,
        0x7fff0000, 0x80000001, 123456789, -987654321};

    private static int seed;

    private static int draw(int n) {
        seed = seed * 1103515245 + 12345;
        return (seed >> 16 & 32767) % n;
    }

    private static void zeroToSixtyDays() {
        TemperDowns x = Due.of("person 0 0 7;ball 0 9 holds 5;rises 0;bursts 0;");
        for (int what = 0; what <= 2; what++) {
            int w = what;
            Due.thrown(x, Due.IAE, () -> x.years(1, -1, w), () -> x.years(1, 61, w),
                    () -> x.years(1, Integer.MAX_VALUE, w), () -> x.years(1, Integer.MIN_VALUE, w));
        }
        Due.is("none go off in none", x.years(1, 0, 0), 0);
        Due.is("nobody shouts in none", x.years(1, 0, 1), 0);
        Due.is("temper now", x.years(1, 0, 2), 7);
        TemperDowns y = Due.of("ball 0 9 holds 5;bursts day=59;");
        y.guard(0, true);
        Due.is("59", y.years(1, 59, 0), 0);
        Due.is("60", y.years(1, 60, 0), 1);
    }

    private static void noSuchWhat() {
        TemperDowns x = Due.of("person 0 0 7;");
        Due.thrown(x, Due.NSE, () -> x.years(1, 0, -1), () -> x.years(1, 60, 3), () -> x.years(1, 61, 3),
                () -> x.years(1, -1, -1), () -> x.years(1, -1, Integer.MAX_VALUE));
    }

    private static void nobodyNothing() {
        for (int s : SEEDS) {
            TemperDowns x = new TemperDowns();
            for (int what = 0; what <= 2; what++) {
                Due.is("seed " + s + ", what " + what, x.years(s, 60, what), 0);
            }
        }
    }

    /** Nothing is drawn behind 0 without puffballs. */
    private static void withoutPuffballs() {
        TemperDowns x = Due.of("person 0 0 7;person 3 0 9;rises 0;");
        for (int s : SEEDS) {
            for (int n = 1; n <= 60; n += 59) {
                seed = s;
                int[] temper = {7, 9};
                int shouts = 0;
                for (int day = 0; day < n; day++) {
                    if (draw(5) == 1) {
                        int who = draw(2);
                        temper[who] = draw(60);
                    }
                    for (int p = 0; p < 2; p++) {
                        if (temper[p] >= 20) {
                            shouts++;
                            temper[p] /= 2;
                        }
                    }
                }
                Due.is("shouts by " + s, x.years(s, n, 1), shouts);
                Due.is("temper by " + s, x.years(s, n, 2), temper[0] + temper[1]);
                Due.is("none go off by " + s, x.years(s, n, 0), 0);
            }
        }
    }

    /** Nothing is drawn behind 1 without people. */
    private static void withoutPeople() {
        StringBuilder text = new StringBuilder("bursts 0;");
        for (int ball = 0; ball < 10; ball++) {
            text.append("ball ").append(ball).append(" 9 holds 5;");
        }
        TemperDowns x = Due.of(text.toString());
        x.guard(3, true);
        for (int s : SEEDS) {
            for (int n = 1; n <= 60; n += 59) {
                seed = s;
                int gone = 0;
                for (int day = 0; day < n; day++) {
                    if (draw(5) == 0) {
                        int which = draw(10);
                        gone |= which == 3 ? 0 : 1 << which;
                    }
                }
                Due.is("off by " + s, x.years(s, n, 0), Integer.bitCount(gone));
                Due.is("no temper by " + s, x.years(s, n, 2), 0);
            }
        }
    }

    private static void aheadOfEachDay() {
        TemperDowns x = Due.of("person 0 0 0;ball 0 99;rises (temper<1)*20;bursts 0;");
        for (int s : SEEDS) {
            seed = s;
            int off = 0;
            int temper = 0;
            boolean white = true;
            int shouts = 0;
            for (int day = 0; day < 60; day++) {
                int drawn = draw(5);
                if (drawn == 0) {
                    draw(1);
                    if (!white) {
                        off++;
                        white = true;
                        temper = Math.min(99, temper + 5);
                    }
                } else if (drawn == 1) {
                    draw(1);
                    temper = draw(60);
                }
                temper += temper < 1 ? 20 : 0;
                if (temper >= 20) {
                    shouts += white ? 0 : 1;
                    temper = white ? 0 : temper / 2;
                    white = false;
                }
            }
            Due.is("off by " + s, x.years(s, 60, 0), off);
            Due.is("shouts by " + s, x.years(s, 60, 1), shouts);
            Due.is("temper by " + s, x.years(s, 60, 2), temper);
        }
    }

    private static void nothingChanges() {
        TemperDowns x = Due.of("person 0 0 0;ball 0 99;rises 20;bursts age-2;");
        String before = Due.state(x);
        int off = x.years(5, 60, 0);
        x.years(6, 60, 1);
        Due.is("all stays", Due.state(x).equals(before), true);
        Due.is("the same seed again", x.years(5, 60, 0), off);
    }

    public static void main(String[] args) {
        Due.runAll(Promise30Test.class);
    }
}
