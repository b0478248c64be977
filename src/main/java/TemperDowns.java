import java.util.NoSuchElementException;

/** Puffballs, and the county's temper. */
public final class TemperDowns {
    public static final int NONE = -1;

    private static final int MOST_BYTES = 700;
    private static final int MOST_PEOPLE = 7;
    private static final int MOST_BALLS = 10;
    private static final int MOST_SIDE = 6;
    private static final int MOST_CELLS = MOST_SIDE * MOST_SIDE;
    private static final int MOST_MILD = 9;
    private static final int MOST_TEMPER = 99;
    private static final int MOST_SIZE = 99;
    private static final int MOST_COUNTED = 9999;
    private static final int GREAT_TEMPER = 20;
    private static final int MOST_RISE = 20;
    private static final int MOST_AHEAD = 60;

    private static final int TEXTS = 0;
    private static final int ACTS = 1;
    private static final int SIGHTS = 2;

    private final int[] tape = new int[MOST_BYTES];
    private int tapeLength;
    private int faultPlace = NONE;
    private final int[] refused = new int[3];
    private final Land land = new Land();
    private final Reader reader = new Reader(tape);
    private final Book book = new Book();
    private final Book kept = new Book();
    private boolean hasImage;
    private final Scene now = book.scene;
    private final Downs downs = new Downs(land);
    private final Forecast forecast = new Forecast(downs, now);
    private final Plans plans = new Plans(downs, now);
    private final PutBy putting = new PutBy(land, now);
    private final Guess guess = new Guess(downs, book);
    private final Chance chance = new Chance(downs, now);

    public TemperDowns() {
    }

    public int feed(int a, int b, int c, int d, int e) {
        if (tapeLength + 20 > MOST_BYTES) {
            return NONE;
        }
        append(a);
        append(b);
        append(c);
        append(d);
        append(e);
        return tapeLength;
    }

    private void append(int bytes) {
        for (int shift = 24; shift >= 0 && tapeLength < MOST_BYTES; shift -= 8) {
            tape[tapeLength] = (bytes >>> shift) & 255;
            tapeLength++;
        }
    }

    public int county(int n) throws IllegalArgumentException {
        if (n < 0 || n > tapeLength) {
            throw new IllegalArgumentException("the tape has not so many bytes");
        }
        tapeLength = 0;
        int code = reader.readText(n);
        if (code != 0) {
            refused[TEXTS]++;
            faultPlace = reader.place;
            return code;
        }
        faultPlace = NONE;
        land.copyFrom(reader.land);
        book.begin(reader.start);
        hasImage = false;
        return 0;
    }

    public int fault() {
        return faultPlace;
    }

    public int count(int what) throws NoSuchElementException {
        switch (what) {
            case 0: return land.people;
            case 1: return land.balls;
            case 2: return land.width;
            case 3: return land.height;
            case 4: return now.day();
            case 5: return downs.whites(now);
            case 6: return now.guards();
            case 7: return downs.heldByAll(now);
            case 8: return downs.temperOfAll(now);
            case 9: return downs.shoutedByAll(now);
            case 10: return plans.allAtOnce();
            case 11: return book.acts;
            case 12: return book.sights;
            case 13: return tapeLength;
            case 14: return refused[TEXTS];
            case 15: return refused[ACTS];
            case 16: return refused[SIGHTS];
            default: throw new NoSuchElementException("no such count");
        }
    }

    public int person(int person, int what) throws NoSuchElementException {
        needPerson(person);
        switch (what) {
            case 0: return land.home[person];
            case 1: return now.mildOf(person);
            case 2: return now.temperOf(person);
            case 3: return now.shoutedBy(person);
            case 4: return now.heardBy(person);
            case 5: return downs.ownedBy(now, person);
            case 6: return downs.nearestWhite(now, person);
            default: throw new NoSuchElementException("no such thing of a person");
        }
    }

    public int ball(int ball, int what) throws NoSuchElementException {
        needBall(ball);
        switch (what) {
            case 0: return now.cellOf(ball);
            case 1: return land.size[ball];
            case 2: return now.heldIn(ball);
            case 3: return now.ageOf(ball);
            case 4: return now.ownerOf(ball);
            case 5: return now.isGuarded(ball) ? 1 : 0;
            case 6: return downs.setOffBy(now, ball);
            case 7: return downs.hearers(now, downs.setOffBy(now, ball));
            default: throw new NoSuchElementException("no such thing of a puffball");
        }
    }

    public int days(int many) {
        if (many < 1 || many > 20 || now.day() + many > MOST_COUNTED) {
            return refuse(ACTS);
        }
        book.keepAct();
        for (int i = 0; i < many; i++) {
            downs.passDay(now);
        }
        return now.day();
    }

    public int tread(int ball) throws NoSuchElementException {
        needBall(ball);
        if (!now.isLoose(ball)) {
            return refuse(ACTS);
        }
        book.keepAct();
        return Integer.bitCount(downs.burst(now, 1 << ball));
    }

    public int carry(int ball, int cell) throws NoSuchElementException {
        needBall(ball);
        needCell(cell);
        int was = now.cellOf(ball);
        if (was == cell) {
            return refuse(ACTS);
        }
        book.keepAct();
        now.setCell(ball, cell);
        return was;
    }

    public boolean guard(int ball, boolean is) throws NoSuchElementException {
        needBall(ball);
        if (now.isGuarded(ball) == is) {
            refuse(ACTS);
            return false;
        }
        book.keepAct();
        now.setGuards(now.guards() ^ (1 << ball));
        return true;
    }

    public int soothe(int person, int temper) throws NoSuchElementException {
        needPerson(person);
        if (temper < 0 || temper > MOST_TEMPER) {
            return refuse(ACTS);
        }
        book.keepAct();
        int was = now.temperOf(person);
        now.setTemper(person, temper);
        return was;
    }

    public int undo() {
        if (book.acts == 0) {
            return NONE;
        }
        book.takeBackAct();
        return book.acts;
    }

    public int then(int ball, int days, int what)
            throws NoSuchElementException, IllegalArgumentException {
        needBall(ball);
        needWhat(what, 2);
        needDays(days, 0);
        Scene later = forecast.behind(days);
        if (what == 0) {
            return later.heldIn(ball);
        }
        return what == 1 ? later.ageOf(ball) : later.ownerOf(ball);
    }

    public int mood(int person, int days, int what)
            throws NoSuchElementException, IllegalArgumentException {
        needPerson(person);
        needWhat(what, 2);
        needDays(days, 0);
        Scene later = forecast.behind(days);
        if (what == 0) {
            return later.temperOf(person);
        }
        return what == 1 ? later.shoutedBy(person) : later.heardBy(person);
    }

    public int off(int ball) throws NoSuchElementException {
        needBall(ball);
        return forecast.firstDay(Downs.OFF, 1 << ball);
    }

    public int first() {
        return forecast.firstToBurst();
    }

    public int later(int days, int what)
            throws NoSuchElementException, IllegalArgumentException {
        needWhat(what, 3);
        needDays(days, 0);
        if (what == 0) {
            return forecast.bursts(days);
        }
        Scene later = forecast.behind(days);
        if (what == 1) {
            return downs.heldByAll(later);
        }
        return what == 2 ? downs.whites(later) : downs.crossest(later);
    }

    public int toGuard(int ball, int other) throws NoSuchElementException {
        needBall(ball);
        needBall(other);
        return ball == other ? NONE : plans.guardsBetween(ball, other);
    }

    public int fire(int ball, int what) throws NoSuchElementException {
        needBall(ball);
        needWhat(what, 1);
        int best = plans.bestCellFor(ball);
        return what == 0 ? best : plans.homesInReach(ball, best);
    }

    public int pram(int cell, int to, int what) throws NoSuchElementException {
        needCell(cell);
        needCell(to);
        needWhat(what, 1);
        return what == 0 ? plans.stepsBetween(cell, to) : plans.firstStep(cell, to);
    }

    public int putBy(int what) throws NoSuchElementException {
        needWhat(what, 1);
        putting.choose();
        return what == 0 ? putting.many : putting.wasted;
    }

    public int put(int person) throws NoSuchElementException {
        needPerson(person);
        putting.choose();
        return putting.row[person];
    }

    public int see(int ball, int days, boolean white) throws NoSuchElementException {
        needBall(ball);
        if (days < 0 || days > Book.MOST_SEEN_DAYS || book.sights >= Book.MOST_SIGHTS) {
            return refuse(SIGHTS);
        }
        book.addSight(ball, days, white);
        return book.sights;
    }

    public void forget() {
        book.sights = 0;
    }

    public int milder(int what) throws NoSuchElementException {
        needWhat(what, 2);
        if (what == 2) {
            return guess.isSoAnyway() ? 1 : 0;
        }
        guess.search(0);
        return what == 0 ? guess.many : guess.first;
    }

    public int look(int what) throws NoSuchElementException {
        needWhat(what, 1);
        guess.search(Guess.LOOK_DAYS);
        int ball = guess.mostUnlike();
        if (what == 0) {
            return ball;
        }
        return ball == NONE ? 0 : guess.unlikeIn(ball);
    }

    public int boys(int ball, int days, int tenths)
            throws NoSuchElementException, IllegalArgumentException {
        needBall(ball);
        if (days < 1 || days > Chance.MOST_BOYS_DAYS || tenths < 0 || tenths > 10) {
            throw new IllegalArgumentException("no such days or tenths");
        }
        return chance.whiteByBoys(ball, days, tenths);
    }

    public int game(int person, int other, int what)
            throws NoSuchElementException, IllegalArgumentException {
        needPerson(person);
        needPerson(other);
        needWhat(what, 1);
        if (person == other) {
            throw new IllegalArgumentException("both are one");
        }
        if (now.temperOf(person) == 0 || now.temperOf(other) == 0) {
            return NONE;
        }
        chance.play(person, other);
        return what == 0 ? chance.resting() : chance.firstResting();
    }

    public int years(int seed, int n, int what)
            throws NoSuchElementException, IllegalArgumentException {
        needWhat(what, 2);
        needDays(n, 0);
        chance.live(seed, n);
        if (what == 0) {
            return chance.burstsDrawn;
        }
        return what == 1 ? chance.shoutsDrawn : chance.temperDrawn;
    }

    public int cell(int cell, int what) throws NoSuchElementException {
        needCell(cell);
        needWhat(what, 1);
        return what == 0 ? downs.over(now, cell) : downs.nearestBall(now, cell);
    }

    public int when(int person, int what) throws NoSuchElementException {
        needPerson(person);
        needWhat(what, 1);
        return forecast.firstDay(what == 0 ? Downs.OUT : Downs.SHOUT, 1 << person);
    }

    public int ahead(int days, int what)
            throws NoSuchElementException, IllegalArgumentException {
        needWhat(what, 1);
        needDays(days, what == 0 ? 1 : 0);
        return what == 0 ? forecast.calmDays(days) : downs.fullest(forecast.behind(days), 0);
    }

    public int stays(int person, int days)
            throws NoSuchElementException, IllegalArgumentException {
        needPerson(person);
        needDays(days, 1);
        return forecast.outstayed(person, days);
    }

    public void image() {
        kept.copyFrom(book);
        hasImage = true;
    }

    public boolean restore() {
        if (!hasImage) {
            return false;
        }
        book.copyFrom(kept);
        return true;
    }

    private int refuse(int kind) {
        refused[kind]++;
        return NONE;
    }

    private void needPerson(int person) {
        if (person < 0 || person >= land.people) {
            throw new NoSuchElementException("no such person");
        }
    }

    private void needBall(int ball) {
        if (ball < 0 || ball >= land.balls) {
            throw new NoSuchElementException("no such puffball");
        }
    }

    private void needCell(int cell) {
        if (cell < 0 || cell >= land.cells) {
            throw new NoSuchElementException("no such cell");
        }
    }

    private void needWhat(int what, int last) {
        if (what < 0 || what > last) {
            throw new NoSuchElementException("no such what");
        }
    }

    private void needDays(int days, int least) {
        if (days < least || days > MOST_AHEAD) {
            throw new IllegalArgumentException("no such days");
        }
    }

    /** A rule of the language, as steps on a stack: numbers are 0 and more, all else is less. */
    private static final class Rule {
        static final int OR = -1;
        static final int AND = -2;
        static final int NOT = -3;
        static final int LESS = -4;
        static final int SAME = -5;
        static final int PLUS = -6;
        static final int MINUS = -7;
        static final int TIMES = -8;
        static final int BY = -9;
        /** Value k is the step FIRST_VALUE - k. */
        static final int FIRST_VALUE = -20;

        /** Values of a person, and in the same places those of a puffball. */
        static final int MILD = 0;
        static final int TEMPER = 1;
        static final int SHOUTS = 2;
        static final int HEARD = 3;
        static final int HOLDS = 0;
        static final int SIZE = 1;
        static final int AGE = 2;
        static final int NEAR = 3;
        static final int DAY = 4;
        static final int VALUES = 5;

        private final int[] steps = new int[MOST_BYTES];
        private int length;

        boolean isTold() {
            return length > 0;
        }

        void clear() {
            length = 0;
        }

        void add(int step) {
            if (length < steps.length) {
                steps[length] = step;
                length++;
            }
        }

        void copyFrom(Rule other) {
            length = other.length;
            System.arraycopy(other.steps, 0, steps, 0, length);
        }

        int worth(int[] values, int[] stack) {
            int top = 0;
            for (int i = 0; i < length; i++) {
                int step = steps[i];
                if (step == NOT) {
                    if (top > 0) {
                        stack[top - 1] = stack[top - 1] == 0 ? 1 : 0;
                    }
                } else if (step >= 0 || step <= FIRST_VALUE) {
                    if (top < stack.length) {
                        stack[top] = step >= 0 ? step : valueAt(values, FIRST_VALUE - step);
                        top++;
                    }
                } else if (top > 1) {
                    top--;
                    stack[top - 1] = join(step, stack[top - 1], stack[top]);
                }
            }
            return top > 0 ? stack[0] : 0;
        }

        private static int valueAt(int[] values, int k) {
            return k >= 0 && k < values.length ? values[k] : 0;
        }

        private static int join(int step, int a, int b) {
            switch (step) {
                case OR: return a != 0 || b != 0 ? 1 : 0;
                case AND: return a != 0 && b != 0 ? 1 : 0;
                case LESS: return a < b ? 1 : 0;
                case SAME: return a == b ? 1 : 0;
                case PLUS: return a + b;
                case MINUS: return a - b;
                case TIMES: return a * b;
                default: return b == 0 ? 0 : a / b;
            }
        }
    }

    /** What a text tells once for all. */
    private static final class Land {
        int width;
        int height;
        int cells;
        int people;
        int balls;
        final int[] home = new int[MOST_PEOPLE];
        final int[] size = new int[MOST_BALLS];
        final Rule rises = new Rule();
        final Rule bursts = new Rule();
        private final int[] across = new int[MOST_CELLS];
        private final int[] down = new int[MOST_CELLS];

        Land() {
            clear();
        }

        void clear() {
            people = 0;
            balls = 0;
            rises.clear();
            bursts.clear();
            measure(4, 4);
        }

        /** Sides are 1 to MOST_SIDE. */
        void measure(int wide, int high) {
            width = wide;
            height = high;
            cells = wide * high;
            int cell = 0;
            for (int y = 0; y < high; y++) {
                for (int x = 0; x < wide && cell < MOST_CELLS; x++) {
                    across[cell] = x;
                    down[cell] = y;
                    cell++;
                }
            }
        }

        void copyFrom(Land other) {
            measure(other.width, other.height);
            people = other.people;
            balls = other.balls;
            System.arraycopy(other.home, 0, home, 0, MOST_PEOPLE);
            System.arraycopy(other.size, 0, size, 0, MOST_BALLS);
            rises.copyFrom(other.rises);
            bursts.copyFrom(other.bursts);
        }

        int far(int cell, int other) {
            int x = across[cell] - across[other];
            int y = down[cell] - down[other];
            return (x < 0 ? -x : x) + (y < 0 ? -y : y);
        }
    }

    /** How all is at one time, in one row so that it is copied at once. */
    private static final class Scene {
        private static final int DAY = 0;
        private static final int GUARDS = 1;
        private static final int MILD = 2;
        private static final int TEMPER = MILD + MOST_PEOPLE;
        private static final int SHOUTED = TEMPER + MOST_PEOPLE;
        private static final int HEARD = SHOUTED + MOST_PEOPLE;
        private static final int HELD = HEARD + MOST_PEOPLE;
        private static final int AGE = HELD + MOST_BALLS;
        private static final int OWNER = AGE + MOST_BALLS;
        private static final int CELL = OWNER + MOST_BALLS;
        static final int LENGTH = CELL + MOST_BALLS;

        final int[] row = new int[LENGTH];

        void clear() {
            for (int i = 0; i < LENGTH; i++) {
                row[i] = 0;
            }
            for (int ball = 0; ball < MOST_BALLS; ball++) {
                row[OWNER + ball] = NONE;
            }
        }

        void copyFrom(Scene other) {
            System.arraycopy(other.row, 0, row, 0, LENGTH);
        }

        int day() {
            return row[DAY];
        }

        void nextDay() {
            row[DAY]++;
        }

        int guards() {
            return row[GUARDS];
        }

        void setGuards(int bits) {
            row[GUARDS] = bits;
        }

        boolean isGuarded(int ball) {
            return (row[GUARDS] & (1 << ball)) != 0;
        }

        int mildOf(int person) {
            return row[MILD + person];
        }

        void setMild(int person, int mild) {
            row[MILD + person] = mild;
        }

        int temperOf(int person) {
            return row[TEMPER + person];
        }

        void setTemper(int person, int temper) {
            row[TEMPER + person] = Math.min(temper, MOST_TEMPER);
        }

        int shoutedBy(int person) {
            return row[SHOUTED + person];
        }

        void shout(int person) {
            row[SHOUTED + person]++;
            row[TEMPER + person] /= 2;
        }

        int heardBy(int person) {
            return row[HEARD + person];
        }

        void hear(int person, int bangs) {
            row[HEARD + person] = Math.min(row[HEARD + person] + bangs, MOST_COUNTED);
            setTemper(person, temperOf(person) + 5 * bangs);
        }

        int heldIn(int ball) {
            return row[HELD + ball];
        }

        boolean isWhite(int ball) {
            return row[HELD + ball] == 0;
        }

        /** Whether it may be trodden, and set off by others. */
        boolean isLoose(int ball) {
            return !isWhite(ball) && !isGuarded(ball);
        }

        void fill(int ball, int temper, int owner) {
            row[HELD + ball] = temper;
            row[AGE + ball] = 0;
            row[OWNER + ball] = owner;
        }

        int ageOf(int ball) {
            return row[AGE + ball];
        }

        void growOld(int ball) {
            row[AGE + ball]++;
        }

        int ownerOf(int ball) {
            return row[OWNER + ball];
        }

        int cellOf(int ball) {
            return row[CELL + ball];
        }

        void setCell(int ball, int cell) {
            row[CELL + ball] = cell;
        }
    }

    /** Reads a text into a land and a first scene, up to the first fault. */
    private static final class Reader {
        private static final int END = 0;
        private static final int WORD = 1;
        private static final int NUMBER = 2;
        private static final int SIGN = 3;
        private static final int NO_TOKEN = 4;

        private static final int MISPLACED = 1;
        private static final int TOO_MUCH = 2;
        private static final int UNKNOWN = 3;
        private static final int AGAIN = 5;

        private static final int MOST_DIGITS = 4;
        private static final int FAR_TOO_MUCH = 99999;
        private static final int MOST_WITHIN = 6;
        private static final int MOST_NOTS = 6;
        private static final String SIGNS = ";()+-*/<=";

        final Land land = new Land();
        final Scene start = new Scene();
        int place;
        private int code;
        private final int[] text;
        private int length;
        private int from;
        private int end;
        private int kind;
        private int value;
        private boolean tooLong;
        private int number;
        private Rule rule = land.rises;
        private boolean ofPeople;

        Reader(int[] text) {
            this.text = text;
        }

        /** Answers the fault, or 0. */
        int readText(int n) {
            length = Math.min(n, text.length);
            end = 0;
            code = 0;
            place = NONE;
            land.clear();
            start.clear();
            nextToken();
            if (isWord("downs") && !readDowns()) {
                return code;
            }
            for (int i = 0; i < MOST_BYTES && kind != END; i++) {
                if (!readLine()) {
                    return code;
                }
            }
            return code;
        }

        private boolean fail(int fault) {
            code = fault;
            place = from;
            return false;
        }

        private void nextToken() {
            from = end;
            while (from < length && (text[from] == ' ' || text[from] == '\n')) {
                from++;
            }
            end = from;
            if (from >= length) {
                kind = END;
            } else if (isLetter(text[from])) {
                kind = WORD;
                while (end < length && isLetter(text[end])) {
                    end++;
                }
            } else if (isDigit(text[from])) {
                kind = NUMBER;
                value = 0;
                while (end < length && isDigit(text[end])) {
                    value = Math.min(value * 10 + text[end] - '0', FAR_TOO_MUCH);
                    end++;
                }
                tooLong = end - from > MOST_DIGITS;
            } else {
                kind = SIGNS.indexOf((char) text[from]) >= 0 ? SIGN : NO_TOKEN;
                end++;
            }
        }

        private static boolean isLetter(int sign) {
            return sign >= 'a' && sign <= 'z';
        }

        private static boolean isDigit(int sign) {
            return sign >= '0' && sign <= '9';
        }

        private boolean isWord(String word) {
            if (kind != WORD || end - from != word.length()) {
                return false;
            }
            for (int i = 0; i < word.length(); i++) {
                if (text[from + i] != word.charAt(i)) {
                    return false;
                }
            }
            return true;
        }

        private boolean isSign(char sign) {
            return kind == SIGN && text[from] == sign;
        }

        private boolean readSign(char sign) {
            if (!isSign(sign)) {
                return fail(MISPLACED);
            }
            nextToken();
            return true;
        }

        private boolean readNumber(int least, int most) {
            if (kind != NUMBER) {
                return fail(MISPLACED);
            }
            if (tooLong || value < least || value > most) {
                return fail(TOO_MUCH);
            }
            number = value;
            nextToken();
            return true;
        }

        /** Too many digits are the lesser fault of the two, so they count ahead of no such cell. */
        private boolean readCell() {
            if (kind == NUMBER && !tooLong && value >= land.cells) {
                return fail(UNKNOWN);
            }
            return readNumber(0, land.cells - 1);
        }

        private boolean readDowns() {
            nextToken();
            if (!readNumber(1, MOST_SIDE)) {
                return false;
            }
            int wide = number;
            if (!readNumber(1, MOST_SIDE)) {
                return false;
            }
            land.measure(wide, number);
            return readSign(';');
        }

        private boolean readLine() {
            if (isWord("person")) {
                return readPerson();
            }
            if (isWord("ball")) {
                return readBall();
            }
            if (isWord("rises")) {
                ofPeople = true;
                return readRule(land.rises);
            }
            if (isWord("bursts")) {
                ofPeople = false;
                return readRule(land.bursts);
            }
            return fail(MISPLACED);
        }

        private boolean readPerson() {
            int person = land.people;
            if (person >= MOST_PEOPLE) {
                return fail(TOO_MUCH);
            }
            nextToken();
            if (!readCell()) {
                return false;
            }
            land.home[person] = number;
            if (!readNumber(0, MOST_MILD)) {
                return false;
            }
            start.setMild(person, number);
            if (!readNumber(0, MOST_TEMPER)) {
                return false;
            }
            start.setTemper(person, number);
            land.people++;
            return readSign(';');
        }

        private boolean readBall() {
            int ball = land.balls;
            if (ball >= MOST_BALLS) {
                return fail(TOO_MUCH);
            }
            nextToken();
            if (!readCell()) {
                return false;
            }
            start.setCell(ball, number);
            if (!readNumber(1, MOST_SIZE)) {
                return false;
            }
            land.size[ball] = number;
            if (isWord("holds")) {
                nextToken();
                if (!readNumber(1, land.size[ball])) {
                    return false;
                }
                start.fill(ball, number, NONE);
            }
            land.balls++;
            return readSign(';');
        }

        private boolean readRule(Rule which) {
            if (which.isTold()) {
                return fail(AGAIN);
            }
            rule = which;
            nextToken();
            return readExpr(0) && readSign(';');
        }

        /** within: how many others it stands in. */
        private boolean readExpr(int within) {
            if (within >= MOST_WITHIN && (kind == NUMBER || kind == WORD || isSign('('))) {
                return fail(TOO_MUCH);
            }
            if (!readAnd(within)) {
                return false;
            }
            for (int i = 0; i < MOST_BYTES && isWord("or"); i++) {
                nextToken();
                if (!readAnd(within)) {
                    return false;
                }
                rule.add(Rule.OR);
            }
            return true;
        }

        private boolean readAnd(int within) {
            if (!readNot(within)) {
                return false;
            }
            for (int i = 0; i < MOST_BYTES && isWord("and"); i++) {
                nextToken();
                if (!readNot(within)) {
                    return false;
                }
                rule.add(Rule.AND);
            }
            return true;
        }

        private boolean readNot(int within) {
            int nots = 0;
            while (nots < MOST_NOTS && isWord("not")) {
                nots++;
                nextToken();
            }
            if (nots == MOST_NOTS && isWord("not")) {
                return fail(TOO_MUCH);
            }
            if (!readTest(within)) {
                return false;
            }
            for (int i = 0; i < nots; i++) {
                rule.add(Rule.NOT);
            }
            return true;
        }

        private boolean readTest(int within) {
            if (!readSum(within)) {
                return false;
            }
            if (!isSign('<') && !isSign('=')) {
                return true;
            }
            int step = isSign('<') ? Rule.LESS : Rule.SAME;
            nextToken();
            if (!readSum(within)) {
                return false;
            }
            rule.add(step);
            return true;
        }

        private boolean readSum(int within) {
            if (!readProduct(within)) {
                return false;
            }
            for (int i = 0; i < MOST_BYTES && (isSign('+') || isSign('-')); i++) {
                int step = isSign('+') ? Rule.PLUS : Rule.MINUS;
                nextToken();
                if (!readProduct(within)) {
                    return false;
                }
                rule.add(step);
            }
            return true;
        }

        private boolean readProduct(int within) {
            if (!readPart(within)) {
                return false;
            }
            for (int i = 0; i < MOST_BYTES && (isSign('*') || isSign('/')); i++) {
                int step = isSign('*') ? Rule.TIMES : Rule.BY;
                nextToken();
                if (!readPart(within)) {
                    return false;
                }
                rule.add(step);
            }
            return true;
        }

        private boolean readPart(int within) {
            if (kind == NUMBER) {
                if (!readNumber(0, MOST_COUNTED)) {
                    return false;
                }
                rule.add(number);
                return true;
            }
            if (kind == WORD) {
                int which = ofPeople ? valueOfPerson() : valueOfBall();
                if (which == NONE) {
                    return fail(UNKNOWN);
                }
                rule.add(Rule.FIRST_VALUE - which);
                nextToken();
                return true;
            }
            if (within >= MOST_WITHIN || !isSign('(')) {
                return fail(MISPLACED);
            }
            nextToken();
            return readExpr(within + 1) && readSign(')');
        }

        private int valueOfPerson() {
            if (isWord("mild")) {
                return Rule.MILD;
            }
            if (isWord("temper")) {
                return Rule.TEMPER;
            }
            if (isWord("shouts")) {
                return Rule.SHOUTS;
            }
            if (isWord("heard")) {
                return Rule.HEARD;
            }
            return isWord("day") ? Rule.DAY : NONE;
        }

        private int valueOfBall() {
            if (isWord("holds")) {
                return Rule.HOLDS;
            }
            if (isWord("size")) {
                return Rule.SIZE;
            }
            if (isWord("age")) {
                return Rule.AGE;
            }
            if (isWord("near")) {
                return Rule.NEAR;
            }
            return isWord("day") ? Rule.DAY : NONE;
        }
    }

    /** What an image keeps: the scene, the scenes ahead of the acts, what is seen. */
    private static final class Book {
        static final int MOST_ACTS = 40;
        static final int MOST_SIGHTS = 8;
        static final int MOST_SEEN_DAYS = 20;

        final Scene scene = new Scene();
        int acts;
        private final int[] ahead = new int[MOST_ACTS * Scene.LENGTH];
        int sights;
        final int[] seenBall = new int[MOST_SIGHTS];
        final int[] seenDays = new int[MOST_SIGHTS];
        final int[] seenWhite = new int[MOST_SIGHTS];

        Book() {
            scene.clear();
        }

        void begin(Scene start) {
            scene.copyFrom(start);
            acts = 0;
            sights = 0;
        }

        void copyFrom(Book other) {
            scene.copyFrom(other.scene);
            acts = other.acts;
            System.arraycopy(other.ahead, 0, ahead, 0, acts * Scene.LENGTH);
            sights = other.sights;
            System.arraycopy(other.seenBall, 0, seenBall, 0, MOST_SIGHTS);
            System.arraycopy(other.seenDays, 0, seenDays, 0, MOST_SIGHTS);
            System.arraycopy(other.seenWhite, 0, seenWhite, 0, MOST_SIGHTS);
        }

        /** To be called ahead of an act. */
        void keepAct() {
            if (acts >= MOST_ACTS) {
                acts = MOST_ACTS - 1;
                System.arraycopy(ahead, Scene.LENGTH, ahead, 0, acts * Scene.LENGTH);
            }
            System.arraycopy(scene.row, 0, ahead, acts * Scene.LENGTH, Scene.LENGTH);
            acts++;
        }

        void takeBackAct() {
            if (acts > 0) {
                acts--;
                System.arraycopy(ahead, acts * Scene.LENGTH, scene.row, 0, Scene.LENGTH);
            }
        }

        void addSight(int ball, int days, boolean white) {
            if (sights < MOST_SIGHTS) {
                seenBall[sights] = ball;
                seenDays[sights] = days;
                seenWhite[sights] = white ? 1 : 0;
                sights++;
            }
        }
    }

    /** How days go by and puffballs go off in a scene of the land. */
    private static final class Downs {
        private static final int OLD = 10;

        /** Kinds of what a day brings. */
        static final int OFF = 0;
        static final int OUT = 1;
        static final int SHOUT = 2;

        final Land land;
        /** By kind: whom the latest day brought it, as bits. */
        final int[] latest = new int[3];
        /** By puffball: others that hold something in its reach, when it was linked last. */
        private final int[] links = new int[MOST_BALLS];
        private final int[] values = new int[Rule.VALUES];
        /** Five numbers may wait in each of six expressions, and one stands on top. */
        private final int[] stack = new int[40];

        Downs(Land land) {
            this.land = land;
        }

        boolean reaches(Scene scene, int ball, int cell) {
            return land.far(scene.cellOf(ball), cell) <= scene.heldIn(ball) / 10;
        }

        /** To be called ahead of chain: it is asked often of one scene. */
        void link(Scene scene) {
            for (int ball = 0; ball < land.balls; ball++) {
                links[ball] = 0;
                for (int other = 0; other < land.balls && !scene.isWhite(ball); other++) {
                    if (other != ball && !scene.isWhite(other)
                            && reaches(scene, ball, scene.cellOf(other))) {
                        links[ball] |= 1 << other;
                    }
                }
            }
        }

        /** All that go off when these do, as if just those of guards were guarded. */
        int chain(int first, int guards) {
            int all = first;
            int before = 0;
            for (int i = 0; i < land.balls && all != before; i++) {
                before = all;
                for (int ball = 0; ball < land.balls; ball++) {
                    if ((all & (1 << ball)) != 0) {
                        all |= links[ball] & ~guards;
                    }
                }
            }
            return all;
        }

        int setOffBy(Scene scene, int ball) {
            if (scene.isWhite(ball)) {
                return 0;
            }
            link(scene);
            return chain(1 << ball, scene.guards());
        }

        private int heardOf(Scene scene, int balls, int person) {
            int heard = 0;
            for (int ball = 0; ball < land.balls; ball++) {
                if ((balls & (1 << ball)) != 0 && reaches(scene, ball, land.home[person])) {
                    heard++;
                }
            }
            return heard;
        }

        int hearers(Scene scene, int balls) {
            int bits = 0;
            for (int person = 0; person < land.people; person++) {
                if (heardOf(scene, balls, person) > 0) {
                    bits |= 1 << person;
                }
            }
            return bits;
        }

        /** These go off, with all that they set off: all that did. */
        int burst(Scene scene, int first) {
            if (first == 0) {
                return 0;
            }
            link(scene);
            int all = chain(first, scene.guards());
            for (int person = 0; person < land.people; person++) {
                scene.hear(person, heardOf(scene, all, person));
            }
            for (int ball = 0; ball < land.balls; ball++) {
                if ((all & (1 << ball)) != 0) {
                    scene.fill(ball, 0, NONE);
                }
            }
            return all;
        }

        int nearestWhite(Scene scene, int person) {
            int best = NONE;
            int bestFar = 0;
            for (int ball = 0; ball < land.balls; ball++) {
                if (scene.isWhite(ball) && land.size[ball] >= scene.temperOf(person)) {
                    int far = land.far(scene.cellOf(ball), land.home[person]);
                    if (best == NONE || far < bestFar) {
                        best = ball;
                        bestFar = far;
                    }
                }
            }
            return best;
        }

        boolean goOut(Scene scene, int person) {
            int ball = nearestWhite(scene, person);
            if (ball == NONE) {
                return false;
            }
            scene.fill(ball, scene.temperOf(person), person);
            scene.setTemper(person, 0);
            return true;
        }

        void passDay(Scene scene) {
            latest[OUT] = 0;
            latest[SHOUT] = 0;
            for (int person = 0; person < land.people; person++) {
                livePersonsDay(scene, person);
            }
            for (int ball = 0; ball < land.balls; ball++) {
                if (!scene.isWhite(ball)) {
                    scene.growOld(ball);
                }
            }
            latest[OFF] = burst(scene, ripe(scene));
            scene.nextDay();
        }

        private void livePersonsDay(Scene scene, int person) {
            scene.setTemper(person, scene.temperOf(person) + riseOf(scene, person));
            if (scene.temperOf(person) < GREAT_TEMPER) {
                return;
            }
            if (goOut(scene, person)) {
                latest[OUT] |= 1 << person;
            } else {
                scene.shout(person);
                latest[SHOUT] |= 1 << person;
            }
        }

        private int riseOf(Scene scene, int person) {
            if (!land.rises.isTold()) {
                return 10 - scene.mildOf(person);
            }
            values[Rule.MILD] = scene.mildOf(person);
            values[Rule.TEMPER] = scene.temperOf(person);
            values[Rule.SHOUTS] = scene.shoutedBy(person);
            values[Rule.HEARD] = scene.heardBy(person);
            values[Rule.DAY] = scene.day();
            return Math.max(0, Math.min(MOST_RISE, land.rises.worth(values, stack)));
        }

        private int ripe(Scene scene) {
            int bits = 0;
            if (land.bursts.isTold()) {
                link(scene);
            }
            for (int ball = 0; ball < land.balls; ball++) {
                if (!scene.isWhite(ball) && isRipe(scene, ball)) {
                    bits |= 1 << ball;
                }
            }
            return bits;
        }

        private boolean isRipe(Scene scene, int ball) {
            if (!land.bursts.isTold()) {
                return scene.ageOf(ball) >= OLD;
            }
            values[Rule.HOLDS] = scene.heldIn(ball);
            values[Rule.SIZE] = land.size[ball];
            values[Rule.AGE] = scene.ageOf(ball);
            values[Rule.NEAR] = Integer.bitCount(links[ball]);
            values[Rule.DAY] = scene.day();
            return land.bursts.worth(values, stack) > 0;
        }

        int whites(Scene scene) {
            int bits = 0;
            for (int ball = 0; ball < land.balls; ball++) {
                if (scene.isWhite(ball)) {
                    bits |= 1 << ball;
                }
            }
            return bits;
        }

        int ownedBy(Scene scene, int person) {
            int bits = 0;
            for (int ball = 0; ball < land.balls; ball++) {
                if (scene.ownerOf(ball) == person) {
                    bits |= 1 << ball;
                }
            }
            return bits;
        }

        int over(Scene scene, int cell) {
            int bits = 0;
            for (int ball = 0; ball < land.balls; ball++) {
                if (!scene.isWhite(ball) && reaches(scene, ball, cell)) {
                    bits |= 1 << ball;
                }
            }
            return bits;
        }

        int nearestBall(Scene scene, int cell) {
            int best = NONE;
            for (int ball = 0; ball < land.balls; ball++) {
                if (best == NONE || land.far(scene.cellOf(ball), cell)
                        < land.far(scene.cellOf(best), cell)) {
                    best = ball;
                }
            }
            return best;
        }

        /** Which holds most of those that hold something and aren't among the left out. */
        int fullest(Scene scene, int leftOut) {
            int best = NONE;
            for (int ball = 0; ball < land.balls; ball++) {
                if (!scene.isWhite(ball) && (leftOut & (1 << ball)) == 0
                        && (best == NONE || scene.heldIn(ball) > scene.heldIn(best))) {
                    best = ball;
                }
            }
            return best;
        }

        int crossest(Scene scene) {
            int best = NONE;
            for (int person = 0; person < land.people; person++) {
                if (best == NONE || scene.temperOf(person) > scene.temperOf(best)) {
                    best = person;
                }
            }
            return best;
        }

        int heldByAll(Scene scene) {
            int sum = 0;
            for (int ball = 0; ball < land.balls; ball++) {
                sum += scene.heldIn(ball);
            }
            return sum;
        }

        int temperOfAll(Scene scene) {
            int sum = 0;
            for (int person = 0; person < land.people; person++) {
                sum += scene.temperOf(person);
            }
            return sum;
        }

        int shoutedByAll(Scene scene) {
            int sum = 0;
            for (int person = 0; person < land.people; person++) {
                sum += scene.shoutedBy(person);
            }
            return sum;
        }
    }

    /** What comes if only days go by. */
    private static final class Forecast {
        private static final int ALL = -1;

        private final Downs downs;
        private final Scene now;
        private final Scene scene = new Scene();

        Forecast(Downs downs, Scene now) {
            this.downs = downs;
            this.now = now;
        }

        Scene behind(int days) {
            scene.copyFrom(now);
            for (int day = 1; day <= days; day++) {
                downs.passDay(scene);
            }
            return scene;
        }

        /** Behind how many days a kind of thing has come to one of these first. */
        int firstDay(int kind, int bits) {
            scene.copyFrom(now);
            for (int day = 1; day <= MOST_AHEAD; day++) {
                downs.passDay(scene);
                if ((downs.latest[kind] & bits) != 0) {
                    return day;
                }
            }
            return NONE;
        }

        int firstToBurst() {
            if (firstDay(Downs.OFF, ALL) == NONE) {
                return NONE;
            }
            for (int ball = 0; ball < MOST_BALLS; ball++) {
                if ((downs.latest[Downs.OFF] & (1 << ball)) != 0) {
                    return ball;
                }
            }
            return NONE;
        }

        int bursts(int days) {
            int sum = 0;
            scene.copyFrom(now);
            for (int day = 1; day <= days; day++) {
                downs.passDay(scene);
                sum += Integer.bitCount(downs.latest[Downs.OFF]);
            }
            return sum;
        }

        int calmDays(int days) {
            int calm = 0;
            scene.copyFrom(now);
            for (int day = 1; day <= days; day++) {
                downs.passDay(scene);
                if (downs.latest[Downs.OFF] == 0 && downs.latest[Downs.SHOUT] == 0) {
                    calm++;
                }
            }
            return calm;
        }

        int outstayed(int person, int days) {
            int sum = 0;
            scene.copyFrom(now);
            for (int day = 1; day <= days; day++) {
                downs.passDay(scene);
                sum += Integer.bitCount(downs.ownedBy(scene, person));
            }
            return sum;
        }
    }

    /** What could be done best as it is now. */
    private static final class Plans {
        private static final int SUBSETS = 1 << MOST_BALLS;

        private final Downs downs;
        private final Land land;
        private final Scene now;
        private final int[] chains = new int[MOST_BALLS];
        private final int[] steps = new int[MOST_CELLS];
        private final int[] queue = new int[MOST_CELLS];

        Plans(Downs downs, Scene now) {
            this.downs = downs;
            this.land = downs.land;
            this.now = now;
        }

        int allAtOnce() {
            int loose = 0;
            downs.link(now);
            for (int ball = 0; ball < land.balls; ball++) {
                chains[ball] = downs.chain(1 << ball, now.guards());
                if (now.isLoose(ball)) {
                    loose |= 1 << ball;
                }
            }
            int best = loose;
            for (int bits = 0; bits < SUBSETS; bits++) {
                if ((bits & ~loose) == 0 && Integer.bitCount(bits) < Integer.bitCount(best)
                        && together(bits) == loose) {
                    best = bits;
                }
            }
            return best;
        }

        private int together(int bits) {
            int all = 0;
            for (int ball = 0; ball < land.balls; ball++) {
                if ((bits & (1 << ball)) != 0) {
                    all |= chains[ball];
                }
            }
            return all;
        }

        int guardsBetween(int ball, int other) {
            int target = 1 << other;
            int set = downs.setOffBy(now, ball);
            if ((set & target) == 0) {
                return 0;
            }
            int between = set & ~target & ~(1 << ball);
            int best = NONE;
            for (int bits = 1; bits < SUBSETS; bits++) {
                if ((bits & ~between) == 0
                        && (best == NONE || Integer.bitCount(bits) < Integer.bitCount(best))
                        && (downs.chain(1 << ball, now.guards() | bits) & target) == 0) {
                    best = bits;
                }
            }
            return best;
        }

        int homesInReach(int ball, int cell) {
            int homes = 0;
            for (int person = 0; person < land.people; person++) {
                if (land.far(cell, land.home[person]) <= now.heldIn(ball) / 10) {
                    homes++;
                }
            }
            return homes;
        }

        int bestCellFor(int ball) {
            int was = now.cellOf(ball);
            int best = was;
            int fewest = homesInReach(ball, was);
            for (int cell = 0; cell < land.cells; cell++) {
                int homes = homesInReach(ball, cell);
                if (homes < fewest
                        || homes == fewest && land.far(cell, was) < land.far(best, was)) {
                    best = cell;
                    fewest = homes;
                }
            }
            return best;
        }

        int stepsBetween(int cell, int to) {
            if (cell == to) {
                return 0;
            }
            if (isBarred(to)) {
                return NONE;
            }
            walkBackFrom(to, cell);
            return steps[cell];
        }

        int firstStep(int cell, int to) {
            int all = stepsBetween(cell, to);
            if (all < 1) {
                return NONE;
            }
            for (int next = 0; next < land.cells; next++) {
                if (land.far(next, cell) == 1 && steps[next] == all - 1) {
                    return next;
                }
            }
            return NONE;
        }

        private boolean isBarred(int cell) {
            for (int ball = 0; ball < land.balls; ball++) {
                if (now.cellOf(ball) == cell && !now.isWhite(ball)) {
                    return true;
                }
            }
            return false;
        }

        /** Tells for each cell how many steps it is to one; a way may begin on a barred cell. */
        private void walkBackFrom(int to, int beginning) {
            for (int cell = 0; cell < land.cells; cell++) {
                steps[cell] = NONE;
            }
            steps[to] = 0;
            queue[0] = to;
            int many = 1;
            for (int i = 0; i < many && i < land.cells; i++) {
                for (int next = 0; next < land.cells && many < MOST_CELLS; next++) {
                    if (steps[next] == NONE && land.far(queue[i], next) == 1
                            && (next == beginning || !isBarred(next))) {
                        steps[next] = steps[queue[i]] + 1;
                        queue[many] = next;
                        many++;
                    }
                }
            }
        }
    }

    /** All tempers put by with the least room wasted. */
    private static final class PutBy {
        /** More than all sizes together, so that one person more outweighs them. */
        private static final int ONE_MORE = 1000;

        int many;
        int wasted;
        final int[] row = new int[MOST_PEOPLE];
        private final Land land;
        private final Scene now;
        private final int[] byTemper = new int[MOST_PEOPLE];
        private final int[] bySize = new int[MOST_BALLS];

        PutBy(Land land, Scene now) {
            this.land = land;
            this.now = now;
        }

        void choose() {
            sortPeople();
            sortBalls();
            many = 0;
            wasted = 0;
            int people = crossPeople();
            int balls = whiteBalls();
            int best = bestOf(people, balls);
            for (int person = 0; person < land.people; person++) {
                row[person] = NONE;
                if ((people & (1 << person)) != 0) {
                    people &= ~(1 << person);
                    int ball = firstFor(person, people, balls, best);
                    if (ball != NONE) {
                        take(person, ball);
                        balls &= ~(1 << ball);
                        best -= worthOf(ball);
                    }
                }
            }
        }

        private void take(int person, int ball) {
            row[person] = ball;
            many++;
            wasted += land.size[ball] - now.temperOf(person);
        }

        /** The first ball for one by which the best is still reached with the others. */
        private int firstFor(int person, int others, int balls, int best) {
            for (int ball = 0; ball < land.balls; ball++) {
                if ((balls & (1 << ball)) != 0 && land.size[ball] >= now.temperOf(person)
                        && worthOf(ball) + bestOf(others, balls & ~(1 << ball)) == best) {
                    return ball;
                }
            }
            return NONE;
        }

        private int worthOf(int ball) {
            return ONE_MORE - land.size[ball];
        }

        /**
         * The least ball that is large enough goes to the least temper, and so on: the balls that
         * can be filled together are a matroid, so taking the least one first loses nothing.
         */
        private int bestOf(int people, int balls) {
            int sum = 0;
            int next = 0;
            for (int i = 0; i < land.balls; i++) {
                int ball = bySize[i];
                while (next < land.people && (people & (1 << byTemper[next])) == 0) {
                    next++;
                }
                if (next < land.people && (balls & (1 << ball)) != 0
                        && land.size[ball] >= now.temperOf(byTemper[next])) {
                    sum += worthOf(ball);
                    next++;
                }
            }
            return sum;
        }

        private int crossPeople() {
            int bits = 0;
            for (int person = 0; person < land.people; person++) {
                if (now.temperOf(person) > 0) {
                    bits |= 1 << person;
                }
            }
            return bits;
        }

        private int whiteBalls() {
            int bits = 0;
            for (int ball = 0; ball < land.balls; ball++) {
                if (now.isWhite(ball)) {
                    bits |= 1 << ball;
                }
            }
            return bits;
        }

        private void sortPeople() {
            for (int person = 0; person < land.people; person++) {
                int at = person;
                while (at > 0 && now.temperOf(byTemper[at - 1]) > now.temperOf(person)) {
                    byTemper[at] = byTemper[at - 1];
                    at--;
                }
                byTemper[at] = person;
            }
        }

        private void sortBalls() {
            for (int ball = 0; ball < land.balls; ball++) {
                int at = ball;
                while (at > 0 && land.size[bySize[at - 1]] > land.size[ball]) {
                    bySize[at] = bySize[at - 1];
                    at--;
                }
                bySize[at] = ball;
            }
        }
    }

    /** Who could be how mild by what was seen. */
    private static final class Guess {
        static final int LOOK_DAYS = 8;
        /** So many ints have a bit for each number that a puffball may hold. */
        private static final int WORDS = 4;

        int many;
        int first;
        private final Downs downs;
        private final Land land;
        private final Book book;
        private final Scene scene = new Scene();
        private final Scene looked = new Scene();
        /** By puffball WORDS ints: what it would hold behind LOOK_DAYS, a bit for each number. */
        private final int[] marks = new int[MOST_BALLS * WORDS];

        Guess(Downs downs, Book book) {
            this.downs = downs;
            this.land = downs.land;
            this.book = book;
        }

        boolean isSoAnyway() {
            scene.copyFrom(book.scene);
            return agrees(lastDay());
        }

        /** Tries all milds, each for so many days at the least. */
        void search(int leastDays) {
            int days = Math.max(leastDays, lastDay());
            many = 0;
            first = NONE;
            for (int i = 0; i < marks.length; i++) {
                marks[i] = 0;
            }
            for (int who = 0; who < 10 * land.people; who++) {
                int person = who / 10;
                int mild = who % 10;
                if (mild != book.scene.mildOf(person)) {
                    scene.copyFrom(book.scene);
                    scene.setMild(person, mild);
                    if (agrees(days)) {
                        note(who, days);
                    }
                }
            }
        }

        private void note(int who, int days) {
            many++;
            if (first == NONE) {
                first = who;
            }
            for (int ball = 0; ball < land.balls && days >= LOOK_DAYS; ball++) {
                int held = looked.heldIn(ball);
                marks[ball * WORDS + (held >> 5)] |= 1 << (held & 31);
            }
        }

        private int lastDay() {
            int last = 0;
            for (int i = 0; i < book.sights; i++) {
                last = Math.max(last, book.seenDays[i]);
            }
            return last;
        }

        private boolean agrees(int days) {
            for (int day = 0; day <= days; day++) {
                if (day > 0) {
                    downs.passDay(scene);
                }
                if (!agreesOn(day)) {
                    return false;
                }
                if (day == LOOK_DAYS) {
                    looked.copyFrom(scene);
                }
            }
            return true;
        }

        private boolean agreesOn(int day) {
            for (int i = 0; i < book.sights; i++) {
                if (book.seenDays[i] == day
                        && scene.isWhite(book.seenBall[i]) != (book.seenWhite[i] == 1)) {
                    return false;
                }
            }
            return true;
        }

        int unlikeIn(int ball) {
            int unlike = 0;
            for (int i = 0; i < WORDS; i++) {
                unlike += Integer.bitCount(marks[ball * WORDS + i]);
            }
            return unlike;
        }

        int mostUnlike() {
            int best = NONE;
            for (int ball = 0; ball < land.balls && many > 0; ball++) {
                if (best == NONE || unlikeIn(ball) > unlikeIn(best)) {
                    best = ball;
                }
            }
            return best;
        }
    }

    /** Boys who tread, a game of two, years by a seed. */
    private static final class Chance {
        static final int MOST_BOYS_DAYS = 5;
        private static final int GAME_DAYS = 10;
        private static final int COUPLES = 4;

        int burstsDrawn;
        int shoutsDrawn;
        int temperDrawn;
        private final Downs downs;
        private final Land land;
        private final Scene now;
        private final Scene scene = new Scene();
        /** What each of two loses, by 2 times the first one's choice and the other one's. */
        private final int[] lossOfOne = new int[COUPLES];
        private final int[] lossOfOther = new int[COUPLES];
        private int seed;

        Chance(Downs downs, Scene now) {
            this.downs = downs;
            this.land = downs.land;
            this.now = now;
        }

        /** Each row of days on which they tread (bits) has its own weight. */
        int whiteByBoys(int ball, int days, int tenths) {
            int sum = 0;
            for (int row = 0; row < 1 << days; row++) {
                int weight = 1;
                scene.copyFrom(now);
                for (int day = 0; day < days && weight > 0; day++) {
                    boolean tread = (row & (1 << day)) != 0;
                    weight *= tread ? tenths : 10 - tenths;
                    int fullest = downs.fullest(scene, scene.guards());
                    if (tread && fullest != NONE) {
                        downs.burst(scene, 1 << fullest);
                    }
                    downs.passDay(scene);
                }
                if (scene.isWhite(ball)) {
                    sum += weight;
                }
            }
            return sum;
        }

        void play(int one, int other) {
            for (int couple = 0; couple < COUPLES; couple++) {
                int choice = couple >> 1;
                int otherChoice = couple & 1;
                scene.copyFrom(now);
                if (one < other) {
                    choose(one, choice);
                    choose(other, otherChoice);
                } else {
                    choose(other, otherChoice);
                    choose(one, choice);
                }
                for (int day = 0; day < GAME_DAYS; day++) {
                    downs.passDay(scene);
                }
                lossOfOne[couple] = lossOf(one) + 2 * choice;
                lossOfOther[couple] = lossOf(other) + 2 * otherChoice;
            }
        }

        private void choose(int person, int choice) {
            if (choice == 1) {
                downs.goOut(scene, person);
            }
        }

        private int lossOf(int person) {
            return 4 * (scene.shoutedBy(person) - now.shoutedBy(person))
                    + scene.heardBy(person) - now.heardBy(person);
        }

        private boolean rests(int couple) {
            return lossOfOne[couple] <= lossOfOne[couple ^ 2]
                    && lossOfOther[couple] <= lossOfOther[couple ^ 1];
        }

        int resting() {
            int many = 0;
            for (int couple = 0; couple < COUPLES; couple++) {
                if (rests(couple)) {
                    many++;
                }
            }
            return many;
        }

        int firstResting() {
            for (int couple = 0; couple < COUPLES; couple++) {
                if (rests(couple)) {
                    return 10 * (couple >> 1) + (couple & 1);
                }
            }
            return NONE;
        }

        void live(int firstSeed, int days) {
            seed = firstSeed;
            scene.copyFrom(now);
            burstsDrawn = 0;
            shoutsDrawn = 0;
            for (int day = 0; day < days; day++) {
                int drawn = draw(5);
                if (drawn == 0 && land.balls > 0) {
                    treadDrawn();
                } else if (drawn == 1 && land.people > 0) {
                    int person = draw(land.people);
                    scene.setTemper(person, draw(60));
                }
                downs.passDay(scene);
                burstsDrawn += Integer.bitCount(downs.latest[Downs.OFF]);
                shoutsDrawn += Integer.bitCount(downs.latest[Downs.SHOUT]);
            }
            temperDrawn = downs.temperOfAll(scene);
        }

        private void treadDrawn() {
            int ball = draw(land.balls);
            if (scene.isLoose(ball)) {
                burstsDrawn += Integer.bitCount(downs.burst(scene, 1 << ball));
            }
        }

        private int draw(int n) {
            seed = seed * 1103515245 + 12345;
            return n > 0 ? ((seed >>> 16) & 32767) % n : 0;
        }
    }
}
