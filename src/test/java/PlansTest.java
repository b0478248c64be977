/** Promises 19 to 23 and 31: what could be done best as it is now. */
public final class PlansTest {
    private static void toGuard() {
        Due.promise("19");
        TemperDowns x = Due.of("downs 6 1;ball 0 99 holds 20;ball 2 99 holds 20;ball 4 99 holds 20;"
                + "ball 5 9 holds 9;");
        Due.is("of as few the least", x.toGuard(0, 3), 2);
        Due.is("none by which", x.toGuard(0, 1), -1);
        Due.is("both are one", x.toGuard(0, 0), -1);
        Due.is("not set off", x.toGuard(3, 0), 0);
        Due.none("toGuard(4, 0)", () -> x.toGuard(4, 0));
        Due.none("toGuard(0, 4)", () -> x.toGuard(0, 4));
        Due.none("toGuard(-1, 0)", () -> x.toGuard(-1, 0));
        Due.none("toGuard(0, -1)", () -> x.toGuard(0, -1));
        x.guard(1, true);
        Due.is("not set off any more", x.toGuard(0, 3), 0);
        Due.is("a guarded one still sets off", x.toGuard(1, 3), 4);
        x.guard(1, false);
        x.tread(3);
        Due.is("all are white", x.toGuard(0, 3), 0);
        Due.is("a white one and itself", x.toGuard(3, 3), -1);
        TemperDowns y = Due.of("downs 2 2;ball 0 99 holds 10;ball 1 99 holds 10;ball 2 99 holds 10;"
                + "ball 3 9 holds 9;");
        Due.is("two ways, two guards", y.toGuard(0, 3), 6);
        y.guard(1, true);
        Due.is("one more besides", y.toGuard(0, 3), 4);
        y.guard(3, true);
        Due.is("guarded itself", y.toGuard(0, 3), 0);
        TemperDowns z = Due.of("downs 3 2;ball 0 99 holds 10;ball 1 99 holds 10;ball 3 99 holds 10;"
                + "ball 4 99 holds 10;ball 5 9 holds 9;");
        Due.is("fewest, though not the least as bits", z.toGuard(0, 4), 8);
    }

    private static void fire() {
        Due.promise("20");
        TemperDowns x = Due.of("downs 3 1;person 0 0 0;person 1 0 0;ball 0 99 holds 10;ball 1 9;");
        Due.is("which", x.fire(0, 0), 2);
        Due.is("how many", x.fire(0, 1), 1);
        Due.is("a white one", x.fire(1, 0), 2);
        Due.is("how many", x.fire(1, 1), 0);
        Due.none("fire(2, 0)", () -> x.fire(2, 0));
        Due.none("fire(-1, 0)", () -> x.fire(-1, 0));
        Due.none("fire(0, 2)", () -> x.fire(0, 2));
        Due.none("fire(0, -1)", () -> x.fire(0, -1));
        Due.is("as it was", x.ball(0, 0), 0);
        Due.is("then the least",
                Due.of("downs 3 1;person 1 0 0;ball 1 99 holds 5;").fire(0, 0), 0);
        Due.is("where it is", Due.of("downs 5 1;person 2 0 0;ball 3 9 holds 5;").fire(0, 0), 3);
        Due.is("a tenth, cut down", Due.of("downs 3 1;person 0 0 0;ball 2 99 holds 19;").fire(0, 1), 0);
        Due.is("the least far", Due.of("downs 6 1;person 3 0 0;person 4 0 0;ball 4 9 holds 5;").fire(0, 0), 5);
        TemperDowns y = Due.of("downs 2 1;person 0 0 0;person 0 0 0;person 1 0 0;ball 0 99 holds 99;");
        Due.is("all the same", y.fire(0, 0), 0);
        Due.is("each of the people", y.fire(0, 1), 3);
        y.guard(0, true);
        Due.is("guarded or not", y.fire(0, 1), 3);
    }

    private static void pram() {
        Due.promise("21");
        TemperDowns x = Due.of("downs 3 3;ball 4 9 holds 5;ball 0 9;");
        Due.is("round it", x.pram(3, 5, 0), 4);
        Due.is("the least cell", x.pram(3, 5, 1), 0);
        Due.is("where it begins", x.pram(4, 5, 0), 1);
        Due.is("first step from there", x.pram(4, 5, 1), 5);
        Due.is("from there round", x.pram(4, 8, 0), 2);
        Due.is("the lesser", x.pram(4, 8, 1), 5);
        Due.is("not into it", x.pram(3, 4, 0), -1);
        Due.is("no step into it", x.pram(3, 4, 1), -1);
        Due.is("to itself", x.pram(4, 4, 0), 0);
        Due.is("no step to itself", x.pram(4, 4, 1), -1);
        Due.is("no step beside it either", x.pram(3, 3, 1), -1);
        Due.is("white ones don't bar", x.pram(3, 1, 0), 2);
        Due.is("through a white one", x.pram(3, 1, 1), 0);
        Due.none("pram(9, 0, 0)", () -> x.pram(9, 0, 0));
        Due.none("pram(0, 9, 0)", () -> x.pram(0, 9, 0));
        Due.none("pram(-1, 0, 0)", () -> x.pram(-1, 0, 0));
        Due.none("pram(0, -1, 0)", () -> x.pram(0, -1, 0));
        Due.none("pram(0, 0, 2)", () -> x.pram(0, 0, 2));
        Due.none("pram(0, 0, -1)", () -> x.pram(0, 0, -1));
        x.guard(0, true);
        Due.is("nor does a guard", x.pram(3, 1, 0), 2);
        TemperDowns y = Due.of("downs 3 1;ball 1 9 holds 5;");
        Due.is("no way", y.pram(0, 2, 0), -1);
        Due.is("no step", y.pram(0, 2, 1), -1);
        y.tread(0);
        Due.is("a way", y.pram(0, 2, 0), 2);
        Due.is("a step", y.pram(0, 2, 1), 1);
        TemperDowns z = Due.of("downs 6 6;ball 1 9 holds 5;ball 7 9 holds 5;ball 13 9 holds 5;"
                + "ball 19 9 holds 5;ball 25 9 holds 5;");
        Due.is("a long way", z.pram(0, 2, 0), 12);
    }

    private static void rows(TemperDowns x, String name, int many, int more, int... row) {
        Due.promise("22");
        Due.is(name + ": how many", x.putBy(0), many);
        Due.is(name + ": how much more", x.putBy(1), more);
        Due.promise("23");
        for (int p = 0; p < row.length; p++) {
            Due.is(name + ": who " + p, x.put(p), row[p]);
        }
    }

    private static void putBy() {
        TemperDowns x = Due.of("person 0 0 30;person 0 0 10;person 0 0 5;ball 0 40;ball 0 10;ball 0 30;"
                + "ball 9 99 holds 1;");
        rows(x, "the first row", 3, 35, 0, 1, 2);
        x.guard(0, true);
        rows(x, "guarded or not", 3, 35, 0, 1, 2);
        x.soothe(1, 0);
        rows(x, "no temper", 2, 5, 2, -1, 1);
        x.tread(3);
        rows(x, "one more white", 2, 5, 2, -1, 1);
        Due.promise("22");
        Due.none("putBy(2)", () -> x.putBy(2));
        Due.none("putBy(-1)", () -> x.putBy(-1));
        Due.promise("23");
        Due.none("put(3)", () -> x.put(3));
        Due.none("put(-1)", () -> x.put(-1));
        Due.is("nothing is put by so", x.person(0, 2), 30);
        rows(Due.of("person 0 0 10;person 0 0 20;ball 0 30;ball 0 20;ball 0 15;ball 0 99;"),
                "least sizes", 2, 5, 2, 1);
        rows(Due.of("person 0 0 50;person 0 0 60;ball 0 60;"), "none behind all", 1, 10, 0, -1);
        rows(Due.of("person 0 0 61;person 0 0 60;ball 0 60;"), "the one who can", 1, 0, -1, 0);
        rows(Due.of("person 0 0 10;person 0 0 50;ball 0 50;ball 0 10;"), "as many as can", 2, 0, 1, 0);
        rows(Due.of("person 0 0 10;person 0 0 10;person 0 0 90;ball 0 99;ball 0 20;ball 0 11;"),
                "all of them", 3, 20, 1, 2, 0);
        rows(Due.of("person 0 0 5;person 0 0 5;ball 0 9;ball 0 9;"), "no two to one", 2, 8, 0, 1);
        rows(Due.of("person 0 0 1;ball 0 9 holds 1;ball 0 9;"), "white ones", 1, 8, 1);
        rows(Due.of("person 0 0 30;person 0 0 20;person 0 0 10;ball 0 30;ball 0 20;ball 0 10;"),
                "just so", 3, 0, 0, 1, 2);
        Due.is("asked at once", Due.of("person 0 0 0;person 0 0 4;ball 0 3;ball 0 4;").put(1), 1);
        rows(Due.of("person 0 0 10;ball 0 5;"), "too small", 0, 0, -1);
        rows(Due.of("person 0 0 10;"), "no puffballs", 0, 0, -1);
        rows(Due.of("ball 0 5;"), "nobody", 0, 0);
    }

    private static void cells() {
        Due.promise("31");
        TemperDowns x = Due.of("downs 4 1;ball 2 99 holds 20;ball 0 9 holds 9;ball 1 99;ball 2 9;");
        int[] over = {3, 1, 1, 1};
        int[] near = {1, 2, 0, 0};
        for (int c = 0; c < 4; c++) {
            Due.is("over " + c, x.cell(c, 0), over[c]);
            Due.is("near " + c, x.cell(c, 1), near[c]);
        }
        x.guard(1, true);
        Due.is("guarded or not", x.cell(0, 0), 3);
        x.tread(0);
        Due.is("not a white one", x.cell(1, 0), 0);
        x.carry(2, 3);
        Due.is("of like ones the least", x.cell(1, 1), 0);
        Due.none("cell(4, 0)", () -> x.cell(4, 0));
        Due.none("cell(-1, 0)", () -> x.cell(-1, 0));
        Due.none("cell(0, 2)", () -> x.cell(0, 2));
        Due.none("cell(0, -1)", () -> x.cell(0, -1));
        Due.is("none near", new TemperDowns().cell(0, 1), -1);
        Due.is("none over", new TemperDowns().cell(0, 0), 0);
    }

    public static void main(String[] args) {
        toGuard();
        fire();
        pram();
        putBy();
        cells();
        Due.end();
    }
}
