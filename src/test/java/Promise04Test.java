/** Promise 4, its edges: without a fault, behind another text, behind an exception. */
public final class Promise04Test {
    private static void noneWithoutAText() {
        Due.is("fault", new TemperDowns().fault(), -1);
    }

    private static void noneWithoutAFault() {
        TemperDowns x = new TemperDowns();
        x.county(0);
        Due.is("an empty text", x.fault(), -1);
        Due.read(x, "x");
        Due.is("at the first byte", x.fault(), 0);
        Due.read(x, "ball 0 1;");
        Due.is("behind one without", x.fault(), -1);
    }

    private static void placeOfTheLatest() {
        TemperDowns x = new TemperDowns();
        Due.read(x, "  ball x");
        Due.is("place", x.fault(), 7);
        Due.read(x, "ball 0 1;;");
        Due.is("another place", x.fault(), 9);
        Due.read(x, "ball");
        Due.is("where it ends", x.fault(), 4);
    }

    private static void lastByteOf700() {
        TemperDowns x = new TemperDowns();
        Due.read(x, " ".repeat(699) + ";");
        Due.is("place", x.fault(), 699);
        Due.read(x, " ".repeat(696) + "ball");
        Due.is("behind the last", x.fault(), 700);
    }

    private static void staysBehindAnException() {
        TemperDowns x = new TemperDowns();
        Due.read(x, " ;");
        Due.wrong("more than the tape has", () -> x.county(1));
        Due.is("place", x.fault(), 1);
        TemperDowns y = new TemperDowns();
        Due.wrong("below 0", () -> y.county(-1));
        Due.is("none", y.fault(), -1);
    }

    private static void staysBehindOtherCalls() {
        TemperDowns x = Due.of("person 0 0 0;ball 0 9 holds 1;");
        x.image();
        Due.read(x, "ball 0 1 1;");
        x.days(1);
        x.undo();
        x.restore();
        x.feed(0, 0, 0, 0, 0);
        Due.is("place", x.fault(), 9);
    }

    public static void main(String[] args) {
        Due.runAll(Promise04Test.class);
    }
}
