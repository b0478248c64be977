/** Promise 2, its edges: the tape is full, bytes in their order. */
public final class Promise02Test {
    private static final int BLANKS = 0x20202020;

    private static int feedBlanks(TemperDowns x) {
        return x.feed(BLANKS, BLANKS, BLANKS, BLANKS, BLANKS);
    }

    private static TemperDowns full() {
        TemperDowns x = new TemperDowns();
        for (int i = 1; i <= 35; i++) {
            Due.is("feed " + i, feedBlanks(x), 20 * i);
        }
        return x;
    }

    private static void noneBeyond700() {
        TemperDowns x = full();
        Due.is("bytes", x.count(13), 700);
        Due.is("one more", x.feed(-1, -1, -1, -1, -1), -1);
        Due.is("one more again", feedBlanks(x), -1);
        Due.is("bytes then", x.count(13), 700);
        for (int what = 14; what <= 16; what++) {
            Due.is("not counted by status", x.count(what), 0);
        }
    }

    private static void noneComeThatAreRefused() {
        TemperDowns x = full();
        x.feed(0x78787878, 0x78787878, 0x78787878, 0x78787878, 0x78787878);
        Due.wrong("701 bytes", () -> x.county(701));
        Due.is("still blanks alone", x.county(700), 0);
    }

    private static void roomAgainWhenItIsEmpty() {
        TemperDowns x = full();
        Due.is("one more", feedBlanks(x), -1);
        Due.is("read", x.county(0), 0);
        Due.is("fed anew", feedBlanks(x), 20);
    }

    private static void behindTheTape() {
        TemperDowns x = new TemperDowns();
        Due.is("bytes", x.feed(0x62616c6c, 0x20302039, 0x20686f6c, 0x64732035, 0x3b62616c), 20);
        Due.is("bytes then", x.feed(0x6c203120, 0x373b2020, BLANKS, BLANKS, BLANKS), 40);
        Due.is("read", x.county(40), 0);
        Due.is("two", x.count(1), 2);
        Due.is("size of the second", x.ball(1, 1), 7);
    }

    private static void highestFirst() {
        for (int place = 0; place < 20; place++) {
            TemperDowns x = new TemperDowns();
            int[] numbers = {BLANKS, BLANKS, BLANKS, BLANKS, BLANKS};
            numbers[place / 4] ^= 0x1f << (24 - 8 * (place % 4));
            x.feed(numbers[0], numbers[1], numbers[2], numbers[3], numbers[4]);
            Due.is("? at " + place, x.county(20), 1);
            Due.is("its place", x.fault(), place);
        }
    }

    private static void bytesAreKeptWhole() {
        for (int shift = 0; shift <= 24; shift += 8) {
            for (int sign : new int[] {0, 10 + 128, 32 + 128, 'b' + 128, 255}) {
                TemperDowns x = new TemperDowns();
                x.feed(BLANKS & ~(255 << shift) | sign << shift, BLANKS, BLANKS, BLANKS, BLANKS);
                Due.is("sign " + sign, x.county(20), 1);
                Due.is("place of sign " + sign, x.fault(), 3 - shift / 8);
            }
        }
    }

    public static void main(String[] args) {
        Due.runAll(Promise02Test.class);
    }
}
