/** Promises 24 to 30: what is seen, who could be milder, boys, a game of two, years by a seed. */
public final class GuessTest {
    /** By mild 0 to 9 the ball is filled behind 2, 3, 3, 3, 4, 4, 5, 7, 10, 20 days. */
    private static final String ONE = "person 0 5 0;ball 0 99;";

    private static void seeing() {
        Due.promise("24");
        TemperDowns x = Due.of(ONE);
        Due.is("21 days", x.see(0, 21, true), -1);
        Due.is("-1 days", x.see(0, -1, true), -1);
        Due.none("see(1, 21)", () -> x.see(1, 21, true));
        Due.none("see(-1, 0)", () -> x.see(-1, 0, true));
        Due.is("status", x.count(16), 2);
        for (int i = 1; i <= 8; i++) {
            Due.is("seen", x.see(0, i == 8 ? 20 : 0, i < 8), i);
        }
        Due.is("a ninth one", x.see(0, 0, true), -1);
        Due.none("no such ball even so", () -> x.see(1, 0, true));
        Due.is("status", x.count(16), 3);
        Due.is("seen", x.count(12), 8);
        Due.is("no act", x.count(11), 0);
        Due.promise("25");
        x.forget();
        Due.is("forgotten", x.count(12), 0);
        Due.is("seen anew", x.see(0, 0, true), 1);
        x.forget();
        x.forget();
        Due.is("forgotten again", x.count(12), 0);
        Due.is("status stays", x.count(16), 3);
    }

    private static void milder(TemperDowns x, int many, int first, int without) {
        Due.promise("26");
        Due.is("how many", x.milder(0), many);
        Due.is("the first", x.milder(1), first);
        Due.is("without", x.milder(2), without);
    }

    private static void look(TemperDowns x, int ball, int many) {
        Due.promise("27");
        Due.is("look", x.look(0), ball);
        Due.is("how many unlike", x.look(1), many);
    }

    private static void guessing() {
        TemperDowns x = Due.of(ONE);
        milder(x, 9, 0, 1);
        look(x, 0, 5);
        x.see(0, 3, false);
        milder(x, 4, 0, 0);
        look(x, 0, 4);
        x.see(0, 2, true);
        milder(x, 3, 1, 0);
        look(x, 0, 3);
        x.days(1);
        x.forget();
        x.see(0, 3, false);
        milder(x, 5, 0, 1);
        x.see(0, 3, true);
        milder(x, 0, -1, 0);
        look(x, -1, 0);
        x.forget();
        x.see(0, 20, true);
        milder(x, 0, -1, 0);
        x.forget();
        x.see(0, 0, true);
        milder(x, 9, 0, 1);
        Due.promise("26");
        Due.none("milder(3)", () -> x.milder(3));
        Due.none("milder(-1)", () -> x.milder(-1));
        Due.promise("27");
        Due.none("look(2)", () -> x.look(2));
        Due.none("look(-1)", () -> x.look(-1));
        Due.is("mild stays", x.person(0, 1), 5);
        Due.is("the day stays", x.count(4), 1);
        milder(new TemperDowns(), 0, -1, 1);
        look(new TemperDowns(), -1, 0);
        TemperDowns y = Due.of("person 0 0 0;person 15 0 0;ball 0 9 holds 9;ball 15 9;rises mild;bursts 0;");
        milder(y, 18, 1, 1);
        look(y, 0, 1);
        y.see(1, 5, false);
        milder(y, 0, -1, 0);
        TemperDowns z = Due.of("person 0 0 0;person 3 0 0;ball 0 99;ball 3 99;rises mild;bursts 0;");
        z.see(0, 3, true);
        z.see(1, 3, false);
        milder(z, 3, 17, 0);
        look(z, 0, 3);
        z.see(1, 2, true);
        z.see(1, 0, false);
        milder(z, 0, -1, 0);
        TemperDowns eighth = Due.of("person 0 0 0;ball 0 99;ball 3 99 holds 50;bursts day=8;"
                + "rises (day=6)*10+(day=7)*(10+mild);");
        look(eighth, 0, 9);
        eighth.see(0, 9, true);
        look(eighth, 0, 9);
        TemperDowns great = Due.of("person 0 0 80;ball 0 99;ball 3 99 holds 50;rises (day=0)*(10+mild);"
                + "bursts 0;");
        look(great, 0, 9);
        TemperDowns other = Due.of("person 0 0 80;ball 3 99 holds 50;ball 0 99;rises (day=0)*(10+mild);"
                + "bursts 0;");
        look(other, 1, 9);
        TemperDowns single = Due.of("person 0 0 0;ball 3 99 holds 50;ball 0 99;rises mild=9 and 20;");
        look(single, 0, 1);
        single.see(1, 20, false);
        milder(single, 1, 9, 0);
        look(single, 0, 1);
        TemperDowns late = Due.of(ONE);
        late.see(0, 10, false);
        late.see(0, 12, true);
        milder(late, 3, 1, 0);
    }

    private static void boys() {
        Due.promise("28");
        TemperDowns x = Due.of("ball 0 9 holds 5;");
        Due.is("surely", x.boys(0, 1, 10), 10);
        Due.is("never", x.boys(0, 1, 0), 0);
        Due.is("3 tenths", x.boys(0, 1, 3), 3);
        Due.is("twice", x.boys(0, 2, 3), 51);
        Due.is("five times surely", x.boys(0, 5, 10), 100000);
        Due.is("five times", x.boys(0, 5, 1), 100000 - 59049);
        Due.wrong("boys(0, 0, 5)", () -> x.boys(0, 0, 5));
        Due.wrong("boys(0, 6, 5)", () -> x.boys(0, 6, 5));
        Due.wrong("boys(0, 1, 11)", () -> x.boys(0, 1, 11));
        Due.wrong("boys(0, 1, -1)", () -> x.boys(0, 1, -1));
        Due.none("boys(1, 0, 5)", () -> x.boys(1, 0, 5));
        Due.none("boys(-1, 1, 11)", () -> x.boys(-1, 1, 11));
        Due.is("nothing is trodden", x.ball(0, 2), 5);
        x.guard(0, true);
        Due.is("guarded", x.boys(0, 3, 10), 0);
        TemperDowns y = Due.of("downs 2 1;ball 0 9 holds 5;ball 1 9 holds 5;ball 1 9;");
        Due.is("of like ones the least", y.boys(0, 1, 4), 4);
        Due.is("not the other", y.boys(1, 1, 4), 0);
        Due.is("then the other", y.boys(1, 2, 4), 16);
        Due.is("a white one", y.boys(2, 3, 4), 1000);
        TemperDowns z = Due.of("downs 2 1;ball 0 9 holds 5;ball 1 9 holds 6;");
        Due.is("the one that holds most", z.boys(1, 1, 4), 4);
        z.guard(1, true);
        Due.is("not if guarded", z.boys(1, 1, 4), 0);
        Due.is("but the other", z.boys(0, 1, 4), 4);
        TemperDowns refilled = Due.of("person 15 0 0;ball 15 99 holds 9;rises 20;bursts 0;");
        Due.is("ahead of the day, so that it is filled again", refilled.boys(0, 1, 10), 0);
        TemperDowns bursting = Due.of("ball 0 9 holds 5;bursts age=2;");
        Due.is("bursts by itself", bursting.boys(0, 2, 3), 100);
    }

    private static void game() {
        Due.promise("29");
        TemperDowns x = Due.of("person 0 9 10;person 3 9 10;person 3 9 0;ball 0 99;");
        Due.is("none rests", x.game(0, 1, 0), 0);
        Due.is("no first one", x.game(0, 1, 1), -1);
        Due.is("no temper", x.game(0, 2, 0), -1);
        Due.is("no temper either", x.game(2, 1, 1), -1);
        Due.wrong("game(0, 0, 0)", () -> x.game(0, 0, 0));
        Due.wrong("game(2, 2, 1)", () -> x.game(2, 2, 1));
        Due.none("game(3, 3, 0)", () -> x.game(3, 3, 0));
        Due.none("game(0, 3, 0)", () -> x.game(0, 3, 0));
        Due.none("game(-1, 0, 0)", () -> x.game(-1, 0, 0));
        Due.none("game(0, 0, 2)", () -> x.game(0, 0, 2));
        Due.none("game(0, 1, -1)", () -> x.game(0, 1, -1));
        Due.is("nobody went out", x.count(5), 1);
        TemperDowns y = Due.of("person 0 9 10;person 3 9 10;");
        Due.is("going out is dear", y.game(0, 1, 0), 1);
        Due.is("neither goes out", y.game(0, 1, 1), 0);
        TemperDowns z = Due.of("person 0 0 50;person 0 0 50;person 0 0 5;ball 0 60;rises 0;bursts 0;");
        Due.is("one rests", z.game(1, 2, 0), 1);
        Due.is("the first goes out", z.game(1, 2, 1), 10);
        Due.is("the other way", z.game(2, 1, 1), 1);
        Due.is("the lesser first", z.game(0, 1, 0), 0);
        TemperDowns even = Due.of("person 0 0 15;person 3 0 15;ball 0 60 holds 1;bursts 0;rises (day=0)*6;");
        Due.is("a shout, or 2 lost in vain", even.game(0, 1, 1), 0);
        TemperDowns heard = Due.of("downs 1 1;person 0 0 15;person 0 0 15;ball 0 15;ball 0 15;rises 0;"
                + "bursts age=1 or age=2 or age=3;");
        Due.is("either nobody goes out and hears, or both", heard.game(0, 1, 0), 2);
        Due.is("of these the first", heard.game(0, 1, 1), 0);
        Due.is("beyond ten days",
                Due.of("person 0 0 5;person 3 0 5;ball 0 9;ball 3 9;rises (day=10)*15;bursts 0;").game(0, 1, 1), 0);
        TemperDowns tenth = Due.of("person 0 0 5;person 3 0 5;ball 0 9;ball 3 9;rises (day=9)*15;bursts 0;");
        Due.is("a shout on the tenth", tenth.game(0, 1, 1), 11);
        Due.is("both must", tenth.game(1, 0, 0), 1);
        evenGames();
    }

    /** For the one with temper 15 a shout is as dear as to go out and hear two. */
    private static void evenGames() {
        String rest = "ball 0 15;ball 0 9 holds 1;rises (day=9)*5;bursts holds=15;";
        TemperDowns first = Due.of("downs 1 1;person 0 0 15;person 0 0 1;" + rest);
        Due.is("both rest", first.game(0, 1, 0), 2);
        Due.is("the first of them", first.game(0, 1, 1), 0);
        Due.is("both rest the other way", first.game(1, 0, 0), 2);
        TemperDowns second = Due.of("downs 1 1;person 0 0 1;person 0 0 15;" + rest);
        Due.is("both rest by the second", second.game(1, 0, 0), 2);
        Due.is("both rest so, too", second.game(0, 1, 0), 2);
    }

    private static int seed;

    private static int draw(int n) {
        seed = seed * 1103515245 + 12345;
        return (seed >> 16 & 32767) % n;
    }

    private static void years() {
        Due.promise("30");
        TemperDowns x = Due.of("ball 0 9 holds 5;bursts 0;");
        TemperDowns y = Due.of("person 0 0 7;rises 0;");
        for (int i = 0; i < 40; i++) {
            int first = i * 987654321;
            int n = i % 2 == 0 ? 60 : i / 4;
            seed = first;
            int off = 0;
            for (int day = 0; day < n; day++) {
                if (draw(5) == 0) {
                    draw(1);
                    off = 1;
                }
            }
            Due.is("once at most", x.years(first, n, 0), off);
            seed = first;
            int temper = 7;
            int shouts = 0;
            for (int day = 0; day < n; day++) {
                if (draw(5) == 1) {
                    draw(1);
                    temper = draw(60);
                }
                if (temper >= 20) {
                    shouts++;
                    temper /= 2;
                }
            }
            Due.is("shouts", y.years(first, n, 1), shouts);
            Due.is("temper", y.years(first, n, 2), temper);
        }
        Due.is("nothing in no days", y.years(1, 0, 1), 0);
        Due.is("temper now", y.years(1, 0, 2), 7);
        Due.wrong("years(1, 61, 0)", () -> y.years(1, 61, 0));
        Due.wrong("years(1, -1, 0)", () -> y.years(1, -1, 0));
        Due.none("years(1, 61, 3)", () -> y.years(1, 61, 3));
        Due.none("years(1, 0, -1)", () -> y.years(1, 0, -1));
        Due.is("nothing is so now", y.count(4), 0);
        x.guard(0, true);
        Due.is("guarded", x.years(0, 60, 0), 0);
        TemperDowns often = Due.of("person 0 0 0;ball 0 99;rises 20;bursts 0;");
        seed = 4711;
        int trodden = 0;
        boolean white = true;
        for (int day = 0; day < 60; day++) {
            int drawn = draw(5);
            if (drawn == 0) {
                draw(1);
                trodden += white ? 0 : 1;
            } else if (drawn == 1) {
                draw(1);
                draw(60);
            }
            white = false;
        }
        Due.is("often", often.years(4711, 60, 0), trodden);
        Due.is("what bursts counts", Due.of("ball 0 9 holds 5;bursts age=1;").years(77, 60, 0), 1);
        Due.is("nobody, nothing", new TemperDowns().years(9, 60, 2), 0);
    }

    public static void main(String[] args) {
        seeing();
        guessing();
        boys();
        game();
        years();
        Due.end();
    }
}
