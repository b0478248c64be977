/** Promises 1 to 4: a new object, the tape, texts with their faults, what rules are worth. */
public final class TextTest {
    private static final String SEVEN = "person 0 0 0;".repeat(7);
    private static final String TEN = "ball 0 1;".repeat(10);

    private static void newObject() {
        Due.promise("1");
        TemperDowns x = new TemperDowns();
        int[] due = {0, 0, 4, 4, 0, 0, 0, 0, 0, 0, 0, 0, 0, 0, 0, 0, 0};
        for (int i = 0; i < due.length; i++) {
            Due.is("count " + i, x.count(i), due[i]);
        }
        Due.is("NONE", TemperDowns.NONE, -1);
        Due.is("fault", x.fault(), -1);
        Due.none("person", () -> x.person(0, 0));
        Due.none("ball", () -> x.ball(0, 0));
        Due.is("last cell", x.cell(15, 0), 0);
        Due.none("cell 16", () -> x.cell(16, 0));
        Due.is("restore", x.restore(), false);
        Due.is("undo", x.undo(), -1);
        Due.is("first", x.first(), -1);
        Due.is("days", x.days(1), 1);
    }

    private static void tape() {
        Due.promise("2");
        TemperDowns x = new TemperDowns();
        for (int i = 1; i <= 35; i++) {
            Due.is("feed " + i, x.feed(0x20202020, 0x20202020, 0x0a202020, 0x20202020, 0x20202020), 20 * i);
        }
        Due.is("feed beyond", x.feed(-1, -1, -1, -1, -1), -1);
        Due.is("feed beyond again", x.feed(0, 0, 0, 0, 0), -1);
        Due.is("tape", x.count(13), 700);
        Due.is("blanks", x.county(700), 0);
        Due.is("tape is empty", x.count(13), 0);
        int[] numbers = new int[5];
        for (int place = 0; place < 20; place++) {
            java.util.Arrays.fill(numbers, 0x20202020);
            numbers[place / 4] ^= 0x1f << (24 - 8 * (place % 4));
            x.feed(numbers[0], numbers[1], numbers[2], numbers[3], numbers[4]);
            Due.is("county with ? at " + place, x.county(20), 1);
            Due.is("fault with ? at " + place, x.fault(), place);
        }
        x.feed(0x20202020, 0x20ff2020, 0, 0, 0);
        Due.is("byte 255", x.county(20), 1);
        Due.is("byte 255's place", x.fault(), 5);
    }

    private static void counties() {
        Due.promise("3");
        TemperDowns x = Due.of("downs 3 2;person 5 4 7;ball 2 9 holds 3;ball 1 8;");
        Due.is("W", x.count(2), 3);
        Due.is("H", x.count(3), 2);
        Due.is("home", x.person(0, 0), 5);
        Due.is("mild", x.person(0, 1), 4);
        Due.is("temper", x.person(0, 2), 7);
        Due.is("cell", x.ball(0, 0), 2);
        Due.is("size", x.ball(0, 1), 9);
        Due.is("holds", x.ball(0, 2), 3);
        Due.is("holds nothing", x.ball(1, 2), 0);
        x.soothe(0, 9);
        x.see(0, 1, true);
        x.image();
        Due.feed(x, "person 0 0 0;ball");
        Due.wrong("county(-1)", () -> x.county(-1));
        Due.wrong("county(21)", () -> x.county(21));
        Due.is("tape stays", x.count(13), 20);
        Due.is("fault stays", x.fault(), -1);
        Due.is("status stays", x.count(14), 0);
        Due.is("faulty", x.county(17), 1);
        Due.is("its place", x.fault(), 17);
        Due.is("status", x.count(14), 1);
        Due.is("tape is empty", x.count(13), 0);
        Due.wrong("county(1)", () -> x.county(1));
        Due.is("place stays", x.fault(), 17);
        Due.is("all stays: W", x.count(2), 3);
        Due.is("all stays: temper", x.person(0, 2), 9);
        Due.is("all stays: acts", x.count(11), 1);
        Due.is("all stays: seen", x.count(12), 1);
        Due.is("all stays: image", x.restore(), true);
        x.days(21);
        x.see(0, 21, true);
        Due.feed(x, "person 0 0 0;ball");
        Due.is("first bytes", x.county(13), 0);
        Due.is("fault gone", x.fault(), -1);
        Due.is("people", x.count(0), 1);
        Due.is("no puffballs", x.count(1), 0);
        Due.is("W anew", x.count(2), 4);
        Due.is("H anew", x.count(3), 4);
        Due.is("day anew", x.count(4), 0);
        Due.is("acts are gone", x.count(11), 0);
        Due.is("seen is gone", x.count(12), 0);
        Due.is("image is gone", x.restore(), false);
        Due.is("status 0", x.count(14), 1);
        Due.is("status 1", x.count(15), 1);
        Due.is("status 2", x.count(16), 1);
        Due.is("empty text", x.county(0), 0);
        Due.is("nobody", x.count(0), 0);
    }

    private static void rulesAreAnew() {
        TemperDowns x = Due.of("person 0 5 0;ball 5 99 holds 9;rises 1;bursts 1;");
        Due.is("rule", x.mood(0, 1, 0), 1);
        Due.is("other rule", x.off(0), 1);
        Due.is("without", Due.read(x, "person 0 4 0;ball 5 99 holds 9;"), 0);
        Due.is("without rises", x.mood(0, 1, 0), 6);
        Due.is("without bursts", x.off(0), 10);
        Due.is("without holds", Due.read(x, "ball 5 99;"), 0);
        Due.is("it holds nothing", x.ball(0, 2), 0);
    }

    private static void faultsOfLines() {
        Due.fault("", 0, -1);
        Due.fault(" \n ", 0, -1);
        Due.fault(";", 1, 0);
        Due.fault("x", 1, 0);
        Due.fault("Person 0 0 0;", 1, 0);
        Due.fault("\t", 1, 0);
        Due.fault("5", 1, 0);
        Due.fault("12345", 1, 0);
        Due.fault("persons 0 0 0;", 1, 0);
        Due.fault("derson 0 0 0;", 1, 0);
        Due.fault("persoo 0 0 0;", 1, 0);
        Due.fault("person", 1, 6);
        Due.fault("person  \n", 1, 9);
        Due.fault("person 0 0 0", 1, 12);
        Due.fault("person 0 0 0;", 0, -1);
        Due.fault("person0 0\n0;", 0, -1);
        Due.fault("person 15 9 99;", 0, -1);
        Due.fault("person x 0 0;", 1, 7);
        Due.fault("person 0 10 0;", 2, 9);
        Due.fault("person 0 0 100;", 2, 11);
        Due.fault("person 0 0 00000;", 2, 11);
        Due.fault("person 0 0 0 12345;", 1, 13);
        Due.fault("person 0 0 0 0;", 1, 13);
        Due.fault("ball 0 1;", 0, -1);
        Due.fault("ball 0 0;", 2, 7);
        Due.fault("ball 0 100;", 2, 7);
        Due.fault("ball 0 99 holds 99;", 0, -1);
        Due.fault("ball 0 9 holds 10;", 2, 15);
        Due.fault("ball 0 9 holds 0;", 2, 15);
        Due.fault("ball 0 9 holds;", 1, 14);
        Due.fault("ball 0 9 hold 1;", 1, 9);
        Due.fault("ball 0 9 holds 1 holds 1;", 1, 17);
        Due.fault("ball 0;", 1, 6);
        Due.fault("person 0 0 0;" + (char) 233, 1, 13);
    }

    /** Of five digits or more it is too much, there or not; of fewer, if there isn't, unknown. */
    private static void faultsOfCells() {
        String[] lines = {"person ", "ball "};
        String[] ends = {" 0 0;", " 1;"};
        for (int i = 0; i < lines.length; i++) {
            int place = lines[i].length();
            Due.fault(lines[i] + "0" + ends[i], 0, -1);
            Due.fault(lines[i] + "15" + ends[i], 0, -1);
            Due.fault(lines[i] + "0015" + ends[i], 0, -1);
            Due.fault(lines[i] + "16" + ends[i], 3, place);
            Due.fault(lines[i] + "0016" + ends[i], 3, place);
            Due.fault(lines[i] + "9999" + ends[i], 3, place);
            Due.fault(lines[i] + "9999", 3, place);
            Due.fault(lines[i] + "00000" + ends[i], 2, place);
            Due.fault(lines[i] + "00015" + ends[i], 2, place);
            Due.fault(lines[i] + "00016" + ends[i], 2, place);
            Due.fault(lines[i] + "10000" + ends[i], 2, place);
            Due.fault(lines[i] + "10000", 2, place);
            Due.fault(lines[i] + "99999999999" + ends[i], 2, place);
            Due.fault(lines[i] + "4294967296" + ends[i], 2, place);
            Due.fault(lines[i] + "9".repeat(600) + ends[i], 2, place);
        }
        Due.fault("ball 10000 1" + (char) 0, 2, 5);
        Due.fault("downs 1 1;ball 1 1;", 3, 15);
        Due.fault("downs 1 1;ball 00000 1;", 2, 15);
    }

    private static void faultsOfMeasures() {
        Due.fault("downs 6 6;person 35 0 0;", 0, -1);
        Due.fault("downs 2 2;person 4 0 0;", 3, 17);
        Due.fault(" \ndowns 1 1;", 0, -1);
        Due.fault("downs 0 1;", 2, 6);
        Due.fault("downs 7 1;", 2, 6);
        Due.fault("downs 1 0;", 2, 8);
        Due.fault("downs 1 7;", 2, 8);
        Due.fault("downs 12345 1;", 2, 6);
        Due.fault("downs 1;", 1, 7);
        Due.fault("downs 1 1", 1, 9);
        Due.fault("downs 1 1;downs 1 1;", 1, 10);
        Due.fault("ball 0 1;downs 1 1;", 1, 9);
        Due.fault(SEVEN + TEN, 0, -1);
        Due.fault(SEVEN + TEN + "person 0 0 0;", 2, SEVEN.length() + TEN.length());
        Due.fault(SEVEN + TEN + "ball 0 1;", 2, SEVEN.length() + TEN.length());
        Due.fault(SEVEN + " person", 2, SEVEN.length() + 1);
        Due.fault("rises 1;bursts 1;", 0, -1);
        Due.fault("rises 1;rises 1;", 5, 8);
        Due.fault("bursts 1;rises 1;bursts 1;", 5, 17);
    }

    private static void faultsOfRules() {
        Due.fault("rises", 1, 5);
        Due.fault("rises ;", 1, 6);
        Due.fault("rises 1", 1, 7);
        Due.fault("rises x;", 3, 6);
        Due.fault("rises holds;", 3, 6);
        Due.fault("bursts mild;", 3, 7);
        Due.fault("rises mild+temper+shouts+heard+day;", 0, -1);
        Due.fault("bursts holds+size+age+near+day;", 0, -1);
        Due.fault("rises or;", 3, 6);
        Due.fault("rises 1 and or;", 3, 12);
        Due.fault("rises person;", 3, 6);
        Due.fault("rises 1+not 1;", 3, 8);
        Due.fault("rises 1<not 1;", 3, 8);
        Due.fault("rises 1<2<3;", 1, 9);
        Due.fault("rises 1=2<3;", 1, 9);
        Due.fault("rises (1;", 1, 8);
        Due.fault("rises 1);", 1, 7);
        Due.fault("rises ();", 1, 7);
        Due.fault("rises 9999;", 0, -1);
        Due.fault("rises 10000;", 2, 6);
        Due.fault("rises 1 10000;", 1, 8);
        Due.fault("rises 1 2;", 1, 8);
        Due.fault("rises 1 mild;", 1, 8);
        Due.fault("rises -1;", 1, 6);
        Due.fault("rises 1 ? 2;", 1, 8);
        Due.fault("rises 1 or ;x", 1, 11);
        Due.fault("rises 1 and ;x", 1, 12);
        Due.fault("rises 1*;x", 1, 8);
        Due.fault("rises 1-;x", 1, 8);
        Due.fault("rises 1=;x", 1, 8);
        Due.fault("rises not ;x", 1, 10);
        Due.fault("rises not;", 1, 9);
        Due.fault("rises not not not not not not 1;", 0, -1);
        Due.fault("rises not not not not not not not 1;", 2, 30);
        Due.fault("rises not not not not not not (not 1);", 0, -1);
        Due.fault("rises 1 and not not not not not not 1 or not 1;", 0, -1);
        Due.fault("rises (((((1)))));", 0, -1);
        Due.fault("rises ((((((1))))));", 2, 12);
        Due.fault("rises ((((((x", 2, 12);
        Due.fault("rises ((((((not", 2, 12);
        Due.fault("rises (((((((", 2, 12);
        Due.fault("rises ((((((;", 1, 12);
        Due.fault("rises (((((()", 1, 12);
        Due.fault("rises ((((((?", 1, 12);
        Due.fault("rises ((((((", 1, 12);
        Due.fault("rises (((((1)))))+(((((2)))));", 0, -1);
    }

    /** What a rule gives, 0 to 19: as much temper rises on the first day. */
    private static void worth(String rule, int due) {
        Due.is(rule, Due.of("person 0 3 4;rises " + rule + ";").mood(0, 1, 0) - 4, due);
    }

    private static void rules() {
        worth("2+3*4", 14);
        worth("10-3-2", 5);
        worth("15/3/2", 2);
        worth("15/4*4", 12);
        worth("7/0+3", 3);
        worth("(0-7)/2+10", 7);
        worth("1<2", 1);
        worth("2<2", 0);
        worth("3=3", 1);
        worth("3=4", 0);
        worth("not 5", 0);
        worth("not 0", 1);
        worth("not not 5", 1);
        worth("not 1=2", 1);
        worth("not 0+5", 0);
        worth("5 and 3", 1);
        worth("5 and 0", 0);
        worth("0-1 and 2", 1);
        worth("1 and 1", 1);
        worth("0 and 1", 0);
        worth("0 or 7", 1);
        worth("0 or 0", 0);
        worth("1 or 0 and 0", 1);
        worth("(1 or 0) and 0", 0);
        worth("1+2<4", 1);
        worth("(5)", 5);
        worth("0-5", 0);
        worth("mild", 3);
        worth("temper", 4);
        worth("mild*temper", 12);
        worth("shouts+heard+day", 0);
        String level = "0 or 1 and 3=2+1*(";
        worth(level.repeat(5) + "0 or 1 and 7=2+1*5" + ")".repeat(5), 1);
        worth(level.repeat(5) + "0 or 1 and 7=2+1*4" + ")".repeat(5), 0);
        int wraps = 9999 * 9999 * 9999;
        worth("9999*9999*9999<0", wraps < 0 ? 1 : 0);
        worth("9999*9999*9999/9999/9999/2-9999/2", Math.max(0, wraps / 9999 / 9999 / 2 - 9999 / 2));
        worth("1+1+1+1+1+1+1*1*1*1*1/1-1+1+1-1+(1+(1+(1+(1+(1)))))", 12);
        TemperDowns x = Due.of("person 0 0 0;rises 25;");
        Due.is("no more than 20", x.mood(0, 1, 0), 10);
        Due.is("and so one shouts", x.mood(0, 1, 1), 1);
        Due.is("just 20", Due.of("person 0 0 0;ball 0 99;rises 25;").then(0, 1, 0), 20);
        TemperDowns z = Due.of("person 0 0 0;ball 0 99 holds 1;ball 1 99 holds 1;bursts age=size-97;"
                + "rises heard*7;");
        Due.is("nothing heard yet", z.mood(0, 2, 0), 5);
        Due.is("heard", z.mood(0, 3, 0), 12);
        Due.is("the other", z.off(1), 2);
        TemperDowns y = Due.of("person 0 0 0;rises day*2+shouts*3;");
        int[] due = {0, 2, 6, 12, 10, 11, 14};
        for (int day = 1; day <= due.length; day++) {
            Due.is("temper behind " + day, y.mood(0, day, 0), due[day - 1]);
        }
    }

    private static void places() {
        Due.promise("4");
        TemperDowns x = new TemperDowns();
        Due.is("fault at first", x.fault(), -1);
        Due.read(x, "  ball x");
        Due.is("place", x.fault(), 7);
        Due.read(x, "ball 0 1;;");
        Due.is("another place", x.fault(), 9);
        Due.read(x, "ball 0 1;");
        Due.is("none behind", x.fault(), -1);
    }

    public static void main(String[] args) {
        newObject();
        tape();
        counties();
        rulesAreAnew();
        faultsOfLines();
        faultsOfCells();
        faultsOfMeasures();
        faultsOfRules();
        rules();
        places();
        Due.end();
    }
}
