/** Promise 3, its edges: how many bytes, what goes and what stays, each fault and its place. */
public final class Promise03Test {
    private static final String SEVEN = "person 0 0 0;".repeat(7);
    private static final String TEN = "ball 0 1;".repeat(10);

    private static void right(String text) {
        Due.fault(text, 0, -1);
    }

    /** The fault of the text stands where this piece is found last. */
    private static void wrong(int code, String text, String piece) {
        Due.fault(text, code, text.lastIndexOf(piece));
    }

    /** The text ends too soon. */
    private static void tooShort(String text) {
        Due.fault(text, 1, text.length());
    }

    private static void notMoreThanTheTapeHas() {
        TemperDowns x = Due.of("person 0 0 7;ball 0 9 holds 5;");
        x.soothe(0, 8);
        x.see(0, 1, true);
        Due.feed(x, "ball 0 1;");
        Due.thrown(x, Due.IAE, () -> x.county(21), () -> x.county(Integer.MAX_VALUE),
                () -> x.county(-1), () -> x.county(Integer.MIN_VALUE));
        Due.is("tape", x.count(13), 20);
        Due.is("all of it", x.county(20), 0);
        Due.is("it is empty then", x.count(13), 0);
        Due.wrong("one byte of an empty tape", () -> x.county(1));
    }

    private static void nothingOfIt() {
        TemperDowns x = Due.of("downs 2 2;person 0 0 7;ball 0 9 holds 5;");
        Due.is("of an empty tape", x.county(0), 0);
        Due.is("W", x.count(2), 4);
        Due.is("nobody", x.count(0), 0);
        Due.is("no puffballs", x.count(1), 0);
        Due.feed(x, "x");
        Due.is("of a tape with something", x.county(0), 0);
        Due.is("it is empty then", x.count(13), 0);
    }

    private static void firstBytesAlone() {
        TemperDowns x = new TemperDowns();
        Due.feed(x, "ball 0 1;person 0 0 0;");
        Due.is("first bytes", x.county(9), 0);
        Due.is("puffballs", x.count(1), 1);
        Due.is("nobody", x.count(0), 0);
        Due.is("nothing is left", x.count(13), 0);
        Due.feed(x, "ball 0 1;person 0 0 0;");
        Due.is("cut within", x.county(8), 1);
        Due.is("the length of the text, not of the tape", x.fault(), 8);
        Due.feed(x, "ball 0 1;person 0 0 0;");
        Due.is("cut within a word", x.county(11), 1);
        Due.is("its first byte", x.fault(), 9);
        Due.feed(x, "ball 0 12;");
        Due.is("cut within a number", x.county(8), 1);
        Due.is("it ends too soon", x.fault(), 8);
    }

    private static void allStaysWithAFault() {
        TemperDowns x = Due.of("downs 3 1;person 0 4 7;ball 2 9 holds 5;rises 3;bursts age=4;");
        x.soothe(0, 8);
        x.see(0, 1, true);
        x.image();
        x.guard(0, true);
        String before = Due.state(x).replace(" -1 ", " ");
        Due.feed(x, "downs 5 5;person 24 1 1;ball 24 9 holds 9;rises 1;bursts 1;;");
        Due.is("fault", x.county(60), 1);
        Due.is("its place", x.fault(), 59);
        Due.is("tape", x.count(13), 0);
        Due.is("all stays", Due.state(x).replace(" 59 ", " ").replace(" -1 ", " ").equals(before), true);
        Due.is("rises", x.mood(0, 1, 0), 11);
        Due.is("bursts", x.off(0), 4);
        Due.is("status", x.count(14), 1);
        Due.is("acts can be undone", x.undo(), 1);
        Due.is("this was the last", x.ball(0, 5), 0);
        Due.is("the image is there", x.restore(), true);
        Due.is("with its acts", x.undo(), 0);
        Due.is("as at first", x.person(0, 2), 7);
    }

    private static void allAnewWithout() {
        TemperDowns x = Due.of("downs 3 1;person 0 4 7;ball 2 9 holds 5;rises 3;bursts age=4;");
        x.days(1);
        x.guard(0, true);
        x.see(0, 1, true);
        x.image();
        x.days(0);
        x.see(0, 21, true);
        Due.read(x, "x");
        Due.is("anew", Due.read(x, "person 15 4 7;ball 15 9;ball 14 9 holds 5;"), 0);
        int[] due = {1, 2, 4, 4, 0, 1, 0, 5, 7, 0, 2, 0, 0, 0, 1, 1, 1};
        for (int what = 0; what < due.length; what++) {
            Due.is("count " + what, x.count(what), due[what]);
        }
        Due.is("nothing to undo", x.undo(), -1);
        Due.is("no image", x.restore(), false);
        Due.is("without rises", x.mood(0, 1, 0), 13);
        Due.is("without bursts", x.off(1), 10);
        Due.is("age", x.ball(1, 3), 0);
        Due.is("white", x.ball(0, 2), 0);
    }

    private static void atMost700Bytes() {
        TemperDowns x = new TemperDowns();
        String text = SEVEN + "ball 0 1 holds 1;".repeat(10) + "rises 1" + "+1".repeat(200) + ";";
        text = text + " ".repeat(691 - text.length()) + "bursts 1;";
        Due.is("700 bytes", Due.feed(x, text), 700);
        Due.is("all of them", x.county(700), 0);
        Due.is("seven", x.count(0), 7);
        Due.is("by the last line", x.off(9), 1);
        Due.is("by the long rule", x.mood(0, 1, 1), 1);
        Due.fault(text.substring(0, 699) + "?", 1, 699);
        Due.fault(text.substring(0, 699) + " ", 1, 700);
    }

    private static void sides() {
        for (int side = 1; side <= 6; side++) {
            TemperDowns x = Due.of("downs " + side + " 1;");
            Due.is("W", x.count(2), side);
            Due.is("H", x.count(3), 1);
            TemperDowns y = Due.of("downs 1 " + side + ";");
            Due.is("W", y.count(2), 1);
            Due.is("H", y.count(3), side);
        }
        right("downs 6 6;");
        right("downs 0006 0001;");
        for (String side : new String[] {"0", "7", "0000", "0007", "10", "9999", "10000", "00001"}) {
            Due.fault("downs " + side + " 1;", 2, 6);
            Due.fault("downs 1 " + side + ";", 2, 8);
        }
        tooShort("downs");
        tooShort("downs 1");
        tooShort("downs 1 1");
        wrong(1, "downs x 1;", "x");
        wrong(1, "downs 1;", ";");
        wrong(1, "downs 1 1 1;", "1;");
    }

    private static void downsOnlyAtTheBeginning() {
        right("downs 2 2;");
        right("\n downs 2 2;");
        wrong(1, "downs 2 2;downs 2 2;", "downs");
        wrong(1, "ball 0 1;downs 2 2;", "downs");
        wrong(1, "ball downs 1;", "downs");
        wrong(1, "ball 0 1 downs", "downs");
        wrong(1, "rises 1 downs", "downs");
        wrong(1, ";downs 2 2;", ";downs");
    }

    private static void cells() {
        for (int w = 1; w <= 6; w++) {
            for (int h = 1; h <= 6; h += w) {
                String downs = "downs " + w + " " + h + ";";
                right(downs + "person " + (w * h - 1) + " 0 0;ball " + (w * h - 1) + " 1;");
                wrong(3, downs + "person " + w * h + " 0 0;", w * h + " 0 0;");
                wrong(3, downs + "ball " + w * h + " 1;", w * h + " 1;");
            }
        }
        right("person 15 0 0;ball 15 1;");
        right("person 0015 0 0;ball 0 1;");
        wrong(3, "person 16 0 0;", "16");
        wrong(3, "ball 16 1;", "16");
        wrong(3, "ball 0016", "0016");
        wrong(3, "ball 9999 x", "9999");
    }

    private static void ofOneTokenTheLeast() {
        wrong(2, "ball 10000 1;", "10000");
        wrong(2, "person 00000 0 0;", "00000");
        wrong(2, "ball 99999999999999999999 1;", "99999999999999999999");
        wrong(2, "downs 1 1;ball 00016 1;", "00016");
        wrong(2, "rises ((((((x", "x");
        wrong(1, SEVEN + "persons", "persons");
    }

    private static void milds() {
        right("person 0 0 0;");
        right("person 0 9 0;");
        right("person 0 0009 0;");
        wrong(2, "person 0 10 0;", "10");
        wrong(2, "person 0 9999 0;", "9999");
        wrong(2, "person 0 00009 0;", "00009");
        Due.is("9", Due.of("person 0 9 0;").person(0, 1), 9);
    }

    private static void tempers() {
        right("person 0 0 99;");
        wrong(2, "person 0 0 100;", "100");
        wrong(2, "person 0 0 00099;", "00099");
        Due.is("99", Due.of("person 0 0 99;").person(0, 2), 99);
        Due.is("0", Due.of("person 0 0 0;").person(0, 2), 0);
    }

    private static void sizes() {
        right("ball 0 1;");
        right("ball 0 99;");
        wrong(2, "ball 1 0;", "0");
        wrong(2, "ball 0 100;", "100");
        wrong(2, "ball 0 00099;", "00099");
        Due.is("99", Due.of("ball 0 99;").ball(0, 1), 99);
    }

    private static void holds() {
        right("ball 0 1 holds 1;");
        right("ball 0 99 holds 99;");
        right("ball 0 9 holds 0009;");
        wrong(2, "ball 1 9 holds 0;", "0");
        wrong(2, "ball 0 9 holds 10;", "10");
        wrong(2, "ball 0 1 holds 2;", "2");
        wrong(2, "ball 0 9 holds 00009;", "00009");
        tooShort("ball 0 9 holds");
        wrong(1, "ball 0 9 holds;", ";");
        wrong(1, "ball 0 9 holds 1 holds 1;", "holds");
        wrong(1, "ball holds 1;", "holds");
        Due.is("nothing at first", Due.of("ball 0 9;").ball(0, 2), 0);
        Due.is("as much as its size", Due.of("ball 0 9 holds 9;").ball(0, 2), 9);
    }

    private static void sevenPeople() {
        right(SEVEN);
        wrong(2, SEVEN + "person 0 0 0;", "person");
        wrong(2, SEVEN + TEN + "person", "person");
        wrong(2, SEVEN + "person person", "person p");
        Due.is("seven", Due.of(SEVEN).count(0), 7);
    }

    private static void tenPuffballs() {
        right(TEN + SEVEN);
        wrong(2, TEN + "ball 0 1;", "ball");
        wrong(2, TEN + SEVEN + "ball", "ball");
        wrong(2, TEN + "ball ;", "ball");
        Due.is("ten", Due.of(TEN).count(1), 10);
    }

    private static void secondRules() {
        right("rises 1;bursts 1;");
        right("bursts 1;rises 1;");
        wrong(5, "rises 1;rises 1;", "rises");
        wrong(5, "bursts 1;bursts 1;", "bursts");
        wrong(5, "bursts 0;ball 0 1;bursts", "bursts");
        wrong(5, "rises 0;bursts 1;rises", "rises");
        wrong(1, "rises 1;risess", "risess");
    }

    private static void tokens() {
        right("person0 0\n0;ball 0 1holds1;rises(1)or 1;bursts age<1;");
        wrong(1, "persons 0 0 0;", "persons");
        wrong(1, "ballholds", "ballholds");
        wrong(1, "derson 0 0 0;", "derson");
        wrong(1, "persoo 0 0 0;", "persoo");
        wrong(1, "call 0 1;", "call");
        wrong(1, "vises 1;", "vises");
        wrong(1, "qursts 1;", "qursts");
        wrong(1, "towns 1 1;", "towns");
        wrong(1, "ball 0 1 folds 1;", "folds");
        wrong(1, "per son 0 0 0;", "per");
        wrong(1, "risesmild;", "risesmild");
        wrong(1, "Ball 0 1;", "B");
        wrong(1, "baLl 0 1;", "ba");
        for (int sign : new int[] {0, 9, 11, 13, 31, 33, 46, 58, 62, 64, 65, 90, 91, 96, 123, 127, 160, 255}) {
            Due.fault("ball 0 1;" + (char) sign, 1, 9);
            Due.fault("ball 0 " + (char) sign, 1, 7);
            Due.fault("rises " + (char) sign, 1, 6);
            Due.fault("ball " + (char) sign + " 10000 1;", 1, 5);
        }
        for (int sign : new int[] {'(', ')', '+', '-', '*', '/', '<', '=', ';'}) {
            Due.fault("ball 0 1;" + (char) sign, 1, 9);
            Due.fault("ball 0" + (char) sign, 1, 6);
        }
    }

    private static void numbersOfDigits() {
        right("rises 0000;");
        right("rises 9999;");
        right("rises 1+9999;");
        wrong(2, "rises 10000;", "10000");
        wrong(2, "rises 00000;", "00000");
        wrong(2, "rises 1+(00001);", "00001");
        wrong(2, "rises " + "9".repeat(600), "9".repeat(600));
        wrong(1, "10000", "10000");
        wrong(1, "rises 1 10000;", "10000");
        wrong(1, "ball 0 1 10000;", "10000");
        wrong(1, "rises (1 10000;", "10000");
    }

    private static void endsTooSoon() {
        right("");
        right(" \n");
        for (String text : new String[] {"person", "person 0", "person 0 0", "person 0 0 0", "ball",
            "ball 0", "ball 0 1", "ball 0 1 holds", "ball 0 1 holds 1", "rises", "rises 1", "rises 1+",
            "rises 1-", "rises 1*", "rises 1/", "rises 1<", "rises 1=", "rises 1 or", "rises 1 and",
            "rises not", "rises (", "rises (1", "rises ((((((", "bursts", "bursts 1"}) {
            tooShort(text);
            tooShort(text + " ");
            tooShort(text + "\n \n");
        }
    }

    private static void partsThatMustStand() {
        wrong(1, "rises ;", ";");
        wrong(1, "rises ();", ")");
        wrong(1, "rises +1;", "+");
        wrong(1, "rises -1;", "-");
        wrong(1, "rises 1--1;", "-1");
        wrong(1, "rises 1 or ;", ";");
        wrong(1, "rises 1 and <", "<");
        wrong(1, "rises not =", "=");
        wrong(1, "rises 1);", ")");
        wrong(1, "rises (1;", ";");
        wrong(1, "rises 1<2<3;", "<");
        wrong(1, "rises 1<2=3;", "=");
        wrong(1, "rises 1=2<3;", "<");
        wrong(1, "rises 1=2=3;", "=");
        right("rises (1<2)<3;");
        right("rises not 1<2 and 1=1;");
    }

    private static void wordsWhereAPartMustStand() {
        for (String word : new String[] {"x", "or", "and", "person", "ball", "rises", "bursts", "holds",
            "size", "age", "near", "days", "milds", "mil", "temperr"}) {
            wrong(3, "rises " + word + ";", word);
            wrong(3, "rises 1+" + word, word);
            wrong(3, "rises (" + word + ");", word);
            wrong(3, "rises not " + word, word);
            wrong(3, "rises 1 or " + word + ";", word);
            wrong(3, "rises 1 and " + word + ";", word);
            wrong(3, "rises 1<" + word, word);
        }
        for (String word : new String[] {"mild", "temper", "shouts", "heard", "hold", "sizes"}) {
            wrong(3, "bursts " + word + ";", word);
            wrong(3, "bursts 1 and " + word, word);
        }
        right("rises mild+temper+shouts+heard+day;bursts holds+size+age+near+day;");
        wrong(3, "rises 1+not 1;", "not");
        wrong(3, "rises 1=not 1;", "not");
        wrong(3, "rises 1*not 1;", "not");
        wrong(1, "rises 1 not 1;", "not");
        wrong(1, "rises 1 x;", "x");
        wrong(1, "rises mild mild;", "mild;");
        wrong(1, "rises (1) 1;", "1;");
    }

    private static void sixthParenthesis() {
        right("rises (((((1)))));");
        right("rises (((((not mild)))));");
        right("rises (((((1)))))+(((((2)))));");
        right("rises 1+(1+(1+(1+(1+(1)))));");
        right("bursts (((((1)))));");
        wrong(2, "rises ((((((1))))));", "1");
        wrong(2, "rises ((((((mild))))));", "mild");
        wrong(2, "rises ((((((not", "not");
        wrong(2, "rises ((((((or", "or");
        wrong(2, "rises ((((((10000", "10000");
        wrong(2, "rises (((((((1", "(");
        wrong(2, "rises 1+(1+(1+(1+(1+(1+(7))))));", "7");
        wrong(2, "rises ((((((x)", "x");
        wrong(2, "bursts (((((1+(age", "age");
        wrong(1, "rises ((((((;", ";");
        wrong(1, "rises (((((()", ")");
        wrong(1, "rises ((((((+1", "+");
        wrong(1, "rises ((((((?", "?");
        wrong(3, "rises (((((x", "x");
    }

    private static void seventhNot() {
        String six = "not ".repeat(6);
        right("rises " + six + "1;");
        right("rises " + six + "(not 1);");
        right("rises " + six + "1 and " + six + "1 or " + six + "1;");
        right("rises (" + six + "(" + six + "1));");
        wrong(2, "rises " + six + "not 1;", "not");
        wrong(2, "rises " + six + "not", "not");
        wrong(2, "rises " + six + "not not 1;", "not not");
        wrong(2, "rises 1 and " + six + "not 1;", "not");
        wrong(2, "bursts (" + six + "not x;", "not");
        wrong(3, "rises " + six + "or;", "or");
        wrong(1, "rises " + six + ";", ";");
    }

    /** What a rule gives, 0 to 15: as much temper rises on the first day. */
    private static void worth(String rule, int due) {
        Due.is(rule, Due.of("person 0 3 4;rises " + rule + ";").mood(0, 1, 0) - 4, due);
    }

    private static void dividedBy0Gives0() {
        worth("7/0", 0);
        worth("7/0+3", 3);
        worth("0/0", 0);
        worth("7/(mild-3)+1", 1);
        worth("7/1", 7);
        worth("(0-7)/0+1", 1);
    }

    private static void dividedIsCutDownTo0() {
        worth("7/2", 3);
        worth("1/2", 0);
        worth("(0-7)/2+10", 7);
        worth("7/(0-2)+10", 7);
        worth("(0-7)/(0-2)", 3);
        worth("(0-1)/2+1", 1);
    }

    private static void fromTheLeft() {
        worth("10-3-2", 5);
        worth("10-3+2", 9);
        worth("15/4*4", 12);
        worth("15*2/4", 7);
        worth("2+3*4", 14);
        worth("14-3*4", 2);
        worth("(2+1)*4", 12);
        worth("1 or 0 and 0", 1);
        worth("(1 or 0) and 0", 0);
        worth("0 and 0 or 1", 1);
        worth("not 0 and 0", 0);
        worth("not 0 or 1", 1);
        worth("not 1=2", 1);
        worth("not 0+5", 0);
        worth("1+1<3", 1);
        worth("3=1+2", 1);
    }

    /** 2147483647 is 46340 * 46340 + 88047, and one more wraps. */
    private static void intsThatWrap() {
        String most = "(9268*5)*(9268*5)+9999*8+8055";
        worth(most + "<0", 0);
        worth("0<" + most, 1);
        worth(most + "+1<0", 1);
        worth(most + "+1+" + most + "+1", 0);
        worth("(0-(" + most + ")-1)/(0-1)<0", 1);
        worth("(0-(" + most + ")-2)=" + most, 1);
        worth("9999*9999*9999<0", 9999 * 9999 * 9999 < 0 ? 1 : 0);
        worth("(" + most + "+1)*2", 0);
    }

    private static void testsAre1Or0() {
        worth("1<2", 1);
        worth("2<2", 0);
        worth("3<2", 0);
        worth("0-1<0", 1);
        worth("2=2", 1);
        worth("2=3", 0);
        worth("3=2", 0);
        worth("(1<2)+(2=2)*2", 3);
    }

    private static void whatIsnt0Holds() {
        for (int a = -1; a <= 5; a++) {
            for (int b = -1; b <= 5; b++) {
                String one = a < 0 ? "(0-1)" : String.valueOf(a);
                String other = b < 0 ? "(0-1)" : String.valueOf(b);
                worth(one + " and " + other, a != 0 && b != 0 ? 1 : 0);
                worth(one + " or " + other, a != 0 || b != 0 ? 1 : 0);
            }
            worth("not " + (a < 0 ? "(0-1)" : String.valueOf(a)), a == 0 ? 1 : 0);
        }
        worth("not not 5", 1);
        worth("not not 0", 0);
        worth("1+(not 0)*3", 4);
        worth("not not not not not not 7", 1);
        worth("0 or 0 or 0", 0);
        worth("0 or 0 or 9", 1);
        worth("1 and 1 and 0", 0);
    }

    private static void deepestRules() {
        String level = "0 or 1 and 3=2+1*(";
        worth(level.repeat(5) + "0 or 1 and 7=2+1*5" + ")".repeat(5), 1);
        worth(level.repeat(5) + "0 or 1 and 7=2+1*4" + ")".repeat(5), 0);
        worth("(((((7)))))", 7);
        worth("(((((not 0)))))", 1);
        worth("1" + "+1".repeat(14), 15);
        worth("1" + "+1-1".repeat(150), 1);
    }

    private static void valuesOfRises() {
        worth("mild", 3);
        worth("temper", 4);
        worth("shouts", 0);
        worth("heard", 0);
        worth("day", 0);
        TemperDowns x = Due.of("person 0 5 20;ball 0 9 holds 1;ball 0 9 holds 1;ball 0 9 holds 1;"
                + "rises (day=1)*(mild=5)*(temper=0)*(shouts*4+heard+day);");
        x.days(1);
        x.tread(0);
        x.soothe(0, 0);
        x.days(1);
        Due.is("5 and 1 and 0 and 4 and 3 and 1", x.person(0, 2), 8);
    }

    private static void valuesOfBursts() {
        String text = "downs 3 1;ball 0 99 holds 20;ball 1 50 holds 7;ball 2 50 holds 7;ball 2 50;bursts RULE;";
        String[] rules = {"holds=20", "size=99", "age=1", "near=2", "day=0", "holds+size+age+near+day=122",
            "holds=7", "size=50", "near=0"};
        int[] white = {15, 15, 15, 15, 15, 15, 14, 14, 14};
        for (int i = 0; i < rules.length; i++) {
            TemperDowns x = Due.of(text.replace("RULE", rules[i]));
            x.days(1);
            Due.is(rules[i], x.count(5), white[i]);
        }
    }

    private static void firstAlongTheText() {
        wrong(2, "ball 0 100;person 16 0 0;x", "100");
        wrong(3, "ball 16 100;", "16");
        wrong(1, "x 10000", "x");
        for (String join : new String[] {" or ", " and ", "+", "*", "<", "=", "+(", " or not "}) {
            wrong(1, "rises 1" + join + ";x", ";");
            wrong(1, "rises 1" + join + ";ball 16 1;", ";b");
        }
        wrong(1, "ball 0 1 ? 10000", "?");
        wrong(3, "rises x 10000;", "x");
        wrong(5, "rises 1;rises x;", "rises");
    }

    public static void main(String[] args) {
        Due.runAll(Promise03Test.class);
    }
}
