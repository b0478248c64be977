import java.util.ArrayDeque;
import java.util.ArrayList;
import java.util.Arrays;
import java.util.Deque;
import java.util.HashSet;
import java.util.List;
import java.util.NoSuchElementException;
import java.util.Set;
import java.util.TreeMap;
import java.util.function.ToIntFunction;

/** The document once more, written as slowly and plainly as can be, to compare with. */
final class Model {
    static final int NONE = -1;

    static final class Fault extends RuntimeException {
        private static final long serialVersionUID = 1L;
        final int code;
        final int place;

        Fault(int code, int place) {
            this.code = code;
            this.place = place;
        }
    }

    record Token(String text, int place) {
        boolean word() {
            return text.matches("[a-z]+");
        }

        boolean number() {
            return text.matches("[0-9]+");
        }

        boolean end() {
            return text.isEmpty();
        }
    }

    interface Expr {
        int eval(ToIntFunction<String> values);
    }

    static final class Person implements Cloneable {
        int home;
        int mild;
        int temper;
        int shouted;
        int heard;

        Person copy() {
            try {
                return (Person) clone();
            } catch (CloneNotSupportedException e) {
                throw new AssertionError(e);
            }
        }
    }

    static final class Ball implements Cloneable {
        int cell;
        int size;
        int holds;
        int age;
        int owner = NONE;
        boolean guarded;

        Ball copy() {
            try {
                return (Ball) clone();
            } catch (CloneNotSupportedException e) {
                throw new AssertionError(e);
            }
        }
    }

    record Sight(int ball, int days, boolean white) {
    }

    /** People and puffballs at one time, and what has happened on the way there. */
    final class World {
        int day;
        final List<Person> people = new ArrayList<>();
        final List<Ball> balls = new ArrayList<>();
        final List<Integer> gone = new ArrayList<>();
        final Set<Integer> outs = new HashSet<>();
        final Set<Integer> shouts = new HashSet<>();

        World copy() {
            World w = new World();
            w.day = day;
            for (Person p : people) {
                w.people.add(p.copy());
            }
            for (Ball b : balls) {
                w.balls.add(b.copy());
            }
            return w;
        }

        boolean reach(Ball b, int cell) {
            return far(b.cell, cell) * 10 <= b.holds;
        }

        Set<Integer> spread(Set<Integer> first, Set<Integer> guards) {
            Set<Integer> all = new HashSet<>(first);
            Deque<Integer> todo = new ArrayDeque<>(first);
            while (!todo.isEmpty()) {
                int b = todo.poll();
                for (int o = 0; o < balls.size(); o++) {
                    Ball other = balls.get(o);
                    if (o != b && other.holds > 0 && !other.guarded && !guards.contains(o)
                            && reach(balls.get(b), other.cell) && all.add(o)) {
                        todo.add(o);
                    }
                }
            }
            return all;
        }

        Set<Integer> goOff(Set<Integer> first) {
            Set<Integer> all = spread(first, Set.of());
            for (Person p : people) {
                for (int b : all) {
                    if (reach(balls.get(b), p.home)) {
                        p.heard = Math.min(9999, p.heard + 1);
                        p.temper = Math.min(99, p.temper + 5);
                    }
                }
            }
            for (int b : all) {
                Ball ball = balls.get(b);
                ball.holds = 0;
                ball.age = 0;
                ball.owner = NONE;
                gone.add(b);
            }
            return all;
        }

        int place(int who) {
            Person p = people.get(who);
            int best = NONE;
            for (int b = balls.size() - 1; b >= 0; b--) {
                Ball ball = balls.get(b);
                if (ball.holds == 0 && ball.size >= p.temper
                        && (best == NONE || far(ball.cell, p.home)
                                <= far(balls.get(best).cell, p.home))) {
                    best = b;
                }
            }
            return best;
        }

        boolean goOut(int who) {
            int b = place(who);
            if (b == NONE) {
                return false;
            }
            Ball ball = balls.get(b);
            ball.holds = people.get(who).temper;
            ball.owner = who;
            ball.age = 0;
            people.get(who).temper = 0;
            return true;
        }

        void pass() {
            gone.clear();
            outs.clear();
            shouts.clear();
            for (int i = 0; i < people.size(); i++) {
                Person p = people.get(i);
                int rise = 10 - p.mild;
                if (rises != null) {
                    rise = rises.eval(name -> switch (name) {
                        case "mild" -> p.mild;
                        case "temper" -> p.temper;
                        case "shouts" -> p.shouted;
                        case "heard" -> p.heard;
                        default -> day;
                    });
                    rise = rise < 0 ? 0 : rise > 20 ? 20 : rise;
                }
                p.temper = Math.min(99, p.temper + rise);
                if (p.temper >= 20) {
                    if (goOut(i)) {
                        outs.add(i);
                    } else {
                        p.shouted++;
                        p.temper /= 2;
                        shouts.add(i);
                    }
                }
            }
            for (Ball b : balls) {
                b.age += b.holds > 0 ? 1 : 0;
            }
            Set<Integer> ripe = new HashSet<>();
            for (int i = 0; i < balls.size(); i++) {
                if (balls.get(i).holds > 0 && bursts(i)) {
                    ripe.add(i);
                }
            }
            goOff(ripe);
            day++;
        }

        boolean bursts(int i) {
            Ball b = balls.get(i);
            if (bursts == null) {
                return b.age >= 10;
            }
            int near = 0;
            for (int o = 0; o < balls.size(); o++) {
                if (o != i && balls.get(o).holds > 0 && reach(b, balls.get(o).cell)) {
                    near++;
                }
            }
            int others = near;
            return bursts.eval(name -> switch (name) {
                case "holds" -> b.holds;
                case "size" -> b.size;
                case "age" -> b.age;
                case "near" -> others;
                default -> day;
            }) > 0;
        }

        int whites() {
            int bits = 0;
            for (int i = 0; i < balls.size(); i++) {
                bits += balls.get(i).holds == 0 ? 1 << i : 0;
            }
            return bits;
        }

        int fullest(boolean loose) {
            int best = NONE;
            for (int i = balls.size() - 1; i >= 0; i--) {
                Ball b = balls.get(i);
                if (b.holds > 0 && !(loose && b.guarded)
                        && (best == NONE || b.holds >= balls.get(best).holds)) {
                    best = i;
                }
            }
            return best;
        }

        int temper() {
            return people.stream().mapToInt(p -> p.temper).sum();
        }

        int held() {
            return balls.stream().mapToInt(b -> b.holds).sum();
        }
    }

    int w = 4;
    int h = 4;
    Expr rises;
    Expr bursts;
    World now = new World();
    List<World> acts = new ArrayList<>();
    List<Sight> seen = new ArrayList<>();
    World imageNow;
    List<World> imageActs;
    List<Sight> imageSeen;
    byte[] tape = new byte[0];
    int place = NONE;
    int[] status = new int[3];

    int far(int a, int b) {
        return Math.abs(a % w - b % w) + Math.abs(a / w - b / w);
    }

    static int bits(Set<Integer> set) {
        int bits = 0;
        for (int b : set) {
            bits |= 1 << b;
        }
        return bits;
    }

    static Set<Integer> set(int bits) {
        Set<Integer> set = new HashSet<>();
        for (int b = 0; b < 32; b++) {
            if ((bits >> b & 1) == 1) {
                set.add(b);
            }
        }
        return set;
    }

    // ---- the text

    private List<Token> tokens;
    private int at;
    private int newW;
    private int newH;
    private Expr newRises;
    private Expr newBursts;
    private World newWorld;

    private static List<Token> split(String text) {
        List<Token> all = new ArrayList<>();
        java.util.regex.Matcher m =
                java.util.regex.Pattern.compile("[a-z]+|[0-9]+|[^ \\n]", java.util.regex.Pattern.DOTALL)
                        .matcher(text);
        while (m.find()) {
            all.add(new Token(m.group(), m.start()));
        }
        all.add(new Token("", text.length()));
        return all;
    }

    private Token peek() {
        return tokens.get(at);
    }

    private boolean is(String text) {
        return !text.isEmpty() && peek().text().equals(text);
    }

    private void expect(String text) {
        if (!is(text)) {
            throw new Fault(1, peek().place());
        }
        at++;
    }

    private int number(int lo, int hi) {
        Token t = peek();
        if (!t.number()) {
            throw new Fault(1, t.place());
        }
        if (t.text().length() > 4 || Integer.parseInt(t.text()) < lo || Integer.parseInt(t.text()) > hi) {
            throw new Fault(2, t.place());
        }
        at++;
        return Integer.parseInt(t.text());
    }

    private int cellNumber() {
        Token t = peek();
        int cell = number(0, 9999);
        if (cell >= newW * newH) {
            throw new Fault(3, t.place());
        }
        return cell;
    }

    private void parse(String text) {
        tokens = split(text);
        at = 0;
        newW = 4;
        newH = 4;
        newRises = null;
        newBursts = null;
        newWorld = new World();
        if (is("downs")) {
            at++;
            newW = number(1, 6);
            newH = number(1, 6);
            expect(";");
        }
        while (!peek().end()) {
            line();
        }
    }

    private void line() {
        Token t = peek();
        switch (t.text()) {
            case "person" -> {
                if (newWorld.people.size() == 7) {
                    throw new Fault(2, t.place());
                }
                at++;
                Person p = new Person();
                p.home = cellNumber();
                p.mild = number(0, 9);
                p.temper = number(0, 99);
                newWorld.people.add(p);
            }
            case "ball" -> {
                if (newWorld.balls.size() == 10) {
                    throw new Fault(2, t.place());
                }
                at++;
                Ball b = new Ball();
                b.cell = cellNumber();
                b.size = number(1, 99);
                if (is("holds")) {
                    at++;
                    b.holds = number(1, b.size);
                }
                newWorld.balls.add(b);
            }
            case "rises" -> {
                if (newRises != null) {
                    throw new Fault(5, t.place());
                }
                at++;
                newRises = expr(0, Set.of("mild", "temper", "shouts", "heard", "day"));
            }
            case "bursts" -> {
                if (newBursts != null) {
                    throw new Fault(5, t.place());
                }
                at++;
                newBursts = expr(0, Set.of("holds", "size", "age", "near", "day"));
            }
            default -> throw new Fault(1, t.place());
        }
        expect(";");
    }

    private Expr expr(int depth, Set<String> names) {
        if (depth == 6 && (peek().number() || peek().word() || is("("))) {
            throw new Fault(2, peek().place());
        }
        Expr left = and(depth, names);
        while (is("or")) {
            at++;
            Expr a = left;
            Expr b = and(depth, names);
            left = v -> a.eval(v) != 0 | b.eval(v) != 0 ? 1 : 0;
        }
        return left;
    }

    private Expr and(int depth, Set<String> names) {
        Expr left = not(depth, 0, names);
        while (is("and")) {
            at++;
            Expr a = left;
            Expr b = not(depth, 0, names);
            left = v -> a.eval(v) != 0 & b.eval(v) != 0 ? 1 : 0;
        }
        return left;
    }

    private Expr not(int depth, int nots, Set<String> names) {
        if (is("not")) {
            if (nots == 6) {
                throw new Fault(2, peek().place());
            }
            at++;
            Expr a = not(depth, nots + 1, names);
            return v -> a.eval(v) == 0 ? 1 : 0;
        }
        Expr a = sum(depth, names);
        if (is("<")) {
            at++;
            Expr b = sum(depth, names);
            return v -> a.eval(v) < b.eval(v) ? 1 : 0;
        }
        if (is("=")) {
            at++;
            Expr b = sum(depth, names);
            return v -> a.eval(v) == b.eval(v) ? 1 : 0;
        }
        return a;
    }

    private Expr sum(int depth, Set<String> names) {
        Expr left = product(depth, names);
        while (is("+") || is("-")) {
            boolean plus = is("+");
            at++;
            Expr a = left;
            Expr b = product(depth, names);
            left = v -> plus ? a.eval(v) + b.eval(v) : a.eval(v) - b.eval(v);
        }
        return left;
    }

    private Expr product(int depth, Set<String> names) {
        Expr left = part(depth, names);
        while (is("*") || is("/")) {
            boolean times = is("*");
            at++;
            Expr a = left;
            Expr b = part(depth, names);
            left = v -> {
                int x = a.eval(v);
                int y = b.eval(v);
                return times ? x * y : y == 0 ? 0 : x / y;
            };
        }
        return left;
    }

    private Expr part(int depth, Set<String> names) {
        Token t = peek();
        if (t.number()) {
            int n = number(0, 9999);
            return v -> n;
        }
        if (t.word()) {
            if (!names.contains(t.text())) {
                throw new Fault(3, t.place());
            }
            at++;
            return v -> v.applyAsInt(t.text());
        }
        expect("(");
        Expr inner = expr(depth + 1, names);
        expect(")");
        return inner;
    }

    // ---- the face

    int feed(int a, int b, int c, int d, int e) {
        if (tape.length + 20 > 700) {
            return NONE;
        }
        java.nio.ByteBuffer more = java.nio.ByteBuffer.allocate(20);
        more.putInt(a).putInt(b).putInt(c).putInt(d).putInt(e);
        int had = tape.length;
        tape = Arrays.copyOf(tape, had + 20);
        System.arraycopy(more.array(), 0, tape, had, 20);
        return tape.length;
    }

    int county(int n) {
        if (n < 0 || n > tape.length) {
            throw new IllegalArgumentException();
        }
        String text = new String(tape, 0, n, java.nio.charset.StandardCharsets.ISO_8859_1);
        tape = new byte[0];
        try {
            parse(text);
        } catch (Fault f) {
            place = f.place;
            status[0]++;
            return f.code;
        }
        place = NONE;
        w = newW;
        h = newH;
        rises = newRises;
        bursts = newBursts;
        now = newWorld;
        acts = new ArrayList<>();
        seen = new ArrayList<>();
        imageNow = null;
        return 0;
    }

    int fault() {
        return place;
    }

    int count(int what) {
        int guards = 0;
        for (int i = 0; i < now.balls.size(); i++) {
            guards += now.balls.get(i).guarded ? 1 << i : 0;
        }
        return switch (what) {
            case 0 -> now.people.size();
            case 1 -> now.balls.size();
            case 2 -> w;
            case 3 -> h;
            case 4 -> now.day;
            case 5 -> now.whites();
            case 6 -> guards;
            case 7 -> now.held();
            case 8 -> now.temper();
            case 9 -> now.people.stream().mapToInt(p -> p.shouted).sum();
            case 10 -> allAtOnce();
            case 11 -> acts.size();
            case 12 -> seen.size();
            case 13 -> tape.length;
            case 14, 15, 16 -> status[what - 14];
            default -> throw new NoSuchElementException();
        };
    }

    private int allAtOnce() {
        Set<Integer> loose = new HashSet<>();
        for (int i = 0; i < now.balls.size(); i++) {
            if (now.balls.get(i).holds > 0 && !now.balls.get(i).guarded) {
                loose.add(i);
            }
        }
        for (int k = 0; ; k++) {
            for (int bits = 0; bits < 1024; bits++) {
                if (Integer.bitCount(bits) == k && loose.containsAll(set(bits))
                        && now.spread(set(bits), Set.of()).containsAll(loose)) {
                    return bits;
                }
            }
        }
    }

    private Person who(int person) {
        if (person < 0 || person >= now.people.size()) {
            throw new NoSuchElementException();
        }
        return now.people.get(person);
    }

    private Ball which(int ball) {
        if (ball < 0 || ball >= now.balls.size()) {
            throw new NoSuchElementException();
        }
        return now.balls.get(ball);
    }

    private void where(int cell) {
        if (cell < 0 || cell >= w * h) {
            throw new NoSuchElementException();
        }
    }

    private static void what(int what, int last) {
        if (what < 0 || what > last) {
            throw new NoSuchElementException();
        }
    }

    private static void in(int n, int lo, int hi) {
        if (n < lo || n > hi) {
            throw new IllegalArgumentException();
        }
    }

    private int own(World world, int person) {
        int bits = 0;
        for (int i = 0; i < world.balls.size(); i++) {
            bits += world.balls.get(i).owner == person ? 1 << i : 0;
        }
        return bits;
    }

    int person(int person, int what) {
        Person p = who(person);
        return switch (what) {
            case 0 -> p.home;
            case 1 -> p.mild;
            case 2 -> p.temper;
            case 3 -> p.shouted;
            case 4 -> p.heard;
            case 5 -> own(now, person);
            case 6 -> now.place(person);
            default -> throw new NoSuchElementException();
        };
    }

    private Set<Integer> setOff(int ball, Set<Integer> guards) {
        return now.balls.get(ball).holds == 0 ? Set.of() : now.spread(Set.of(ball), guards);
    }

    int ball(int ball, int what) {
        Ball b = which(ball);
        switch (what) {
            case 0: return b.cell;
            case 1: return b.size;
            case 2: return b.holds;
            case 3: return b.age;
            case 4: return b.owner;
            case 5: return b.guarded ? 1 : 0;
            case 6: return bits(setOff(ball, Set.of()));
            case 7:
                Set<Integer> hear = new HashSet<>();
                for (int o : setOff(ball, Set.of())) {
                    for (int p = 0; p < now.people.size(); p++) {
                        if (now.reach(now.balls.get(o), now.people.get(p).home)) {
                            hear.add(p);
                        }
                    }
                }
                return bits(hear);
            default: throw new NoSuchElementException();
        }
    }

    private void act() {
        acts.add(now.copy());
        if (acts.size() > 40) {
            acts.remove(0);
        }
    }

    int days(int many) {
        if (many < 1 || many > 20 || now.day + many > 9999) {
            status[1]++;
            return NONE;
        }
        act();
        for (int i = 0; i < many; i++) {
            now.pass();
        }
        return now.day;
    }

    int tread(int ball) {
        Ball b = which(ball);
        if (b.holds == 0 || b.guarded) {
            status[1]++;
            return NONE;
        }
        act();
        return now.goOff(Set.of(ball)).size();
    }

    int carry(int ball, int cell) {
        Ball b = which(ball);
        where(cell);
        if (b.cell == cell) {
            status[1]++;
            return NONE;
        }
        act();
        int was = b.cell;
        b.cell = cell;
        return was;
    }

    boolean guard(int ball, boolean is) {
        Ball b = which(ball);
        if (b.guarded == is) {
            status[1]++;
            return false;
        }
        act();
        b.guarded = is;
        return true;
    }

    int soothe(int person, int temper) {
        Person p = who(person);
        if (temper < 0 || temper > 99) {
            status[1]++;
            return NONE;
        }
        act();
        int was = p.temper;
        p.temper = temper;
        return was;
    }

    int undo() {
        if (acts.isEmpty()) {
            return NONE;
        }
        now = acts.remove(acts.size() - 1);
        return acts.size();
    }

    private World behind(int days) {
        World world = now.copy();
        for (int i = 0; i < days; i++) {
            world.pass();
        }
        return world;
    }

    int then(int ball, int days, int what) {
        which(ball);
        what(what, 2);
        in(days, 0, 60);
        Ball b = behind(days).balls.get(ball);
        return what == 0 ? b.holds : what == 1 ? b.age : b.owner;
    }

    int mood(int person, int days, int what) {
        who(person);
        what(what, 2);
        in(days, 0, 60);
        Person p = behind(days).people.get(person);
        return what == 0 ? p.temper : what == 1 ? p.shouted : p.heard;
    }

    int off(int ball) {
        which(ball);
        World world = now.copy();
        for (int d = 1; d <= 60; d++) {
            world.pass();
            if (world.gone.contains(ball)) {
                return d;
            }
        }
        return NONE;
    }

    int first() {
        int best = NONE;
        int day = 99;
        for (int b = 0; b < now.balls.size(); b++) {
            int d = off(b);
            if (d != NONE && d < day) {
                day = d;
                best = b;
            }
        }
        return best;
    }

    int later(int days, int what) {
        what(what, 3);
        in(days, 0, 60);
        World world = now.copy();
        int often = 0;
        for (int d = 0; d < days; d++) {
            world.pass();
            often += world.gone.size();
        }
        int cross = NONE;
        for (int p = 0; p < world.people.size(); p++) {
            if (cross == NONE || world.people.get(p).temper > world.people.get(cross).temper) {
                cross = p;
            }
        }
        return what == 0 ? often : what == 1 ? world.held() : what == 2 ? world.whites() : cross;
    }

    int toGuard(int ball, int other) {
        which(ball);
        which(other);
        if (ball == other) {
            return NONE;
        }
        for (int k = 0; k <= 8; k++) {
            for (int bits = 0; bits < 1024; bits++) {
                if (Integer.bitCount(bits) == k && (bits >> ball & 1) == 0 && (bits >> other & 1) == 0
                        && !setOff(ball, set(bits)).contains(other)) {
                    return bits;
                }
            }
        }
        return NONE;
    }

    int fire(int ball, int what) {
        Ball b = which(ball);
        what(what, 1);
        TreeMap<Integer, Integer> order = new TreeMap<>();
        for (int c = 0; c < w * h; c++) {
            int homes = 0;
            for (Person p : now.people) {
                homes += far(p.home, c) <= b.holds / 10 ? 1 : 0;
            }
            order.put(homes * 10000 + far(b.cell, c) * 100 + c, homes);
        }
        return what == 0 ? order.firstKey() % 100 : order.firstEntry().getValue();
    }

    private int[] walk(int from) {
        int[] dist = new int[w * h];
        Arrays.fill(dist, NONE);
        dist[from] = 0;
        for (int round = 0; round < w * h; round++) {
            for (int c = 0; c < w * h; c++) {
                int cell = c;
                if (now.balls.stream().anyMatch(b -> b.holds > 0 && b.cell == cell) || c == from) {
                    continue;
                }
                for (int o = 0; o < w * h; o++) {
                    if (far(c, o) == 1 && dist[o] != NONE && (dist[c] == NONE || dist[o] + 1 < dist[c])) {
                        dist[c] = dist[o] + 1;
                    }
                }
            }
        }
        return dist;
    }

    int pram(int cell, int to, int what) {
        where(cell);
        where(to);
        what(what, 1);
        int all = walk(cell)[to];
        if (what == 0) {
            return all;
        }
        for (int c = 0; c < w * h; c++) {
            int next = c;
            if (all > 0 && far(c, cell) == 1 && walk(c)[to] == all - 1
                    && now.balls.stream().noneMatch(b -> b.holds > 0 && b.cell == next)) {
                return c;
            }
        }
        return NONE;
    }

    private int[] bestRow;
    private int bestMany;
    private int bestSizes;

    private void tryRows(int person, int[] row, int used, int many, int sizes) {
        if (person == row.length) {
            if (bestRow == null || many > bestMany || many == bestMany && sizes < bestSizes) {
                bestRow = row.clone();
                bestMany = many;
                bestSizes = sizes;
            }
            return;
        }
        int temper = now.people.get(person).temper;
        for (int b = 0; b < now.balls.size() && temper > 0; b++) {
            Ball ball = now.balls.get(b);
            if (ball.holds == 0 && ball.size >= temper && (used >> b & 1) == 0) {
                row[person] = b;
                tryRows(person + 1, row, used | 1 << b, many + 1, sizes + ball.size);
            }
        }
        row[person] = NONE;
        tryRows(person + 1, row, used, many, sizes);
    }

    private void choose() {
        bestRow = null;
        tryRows(0, new int[now.people.size()], 0, 0, 0);
    }

    int putBy(int what) {
        what(what, 1);
        choose();
        int more = bestSizes;
        for (int p = 0; p < bestRow.length; p++) {
            more -= bestRow[p] == NONE ? 0 : now.people.get(p).temper;
        }
        return what == 0 ? bestMany : more;
    }

    int put(int person) {
        who(person);
        choose();
        return bestRow[person];
    }

    int see(int ball, int days, boolean white) {
        which(ball);
        if (seen.size() == 8 || days < 0 || days > 20) {
            status[2]++;
            return NONE;
        }
        seen.add(new Sight(ball, days, white));
        return seen.size();
    }

    void forget() {
        seen.clear();
    }

    private boolean so(World start) {
        for (Sight s : seen) {
            World world = start.copy();
            for (int d = 0; d < s.days(); d++) {
                world.pass();
            }
            if ((world.balls.get(s.ball()).holds == 0) != s.white()) {
                return false;
            }
        }
        return true;
    }

    private List<Integer> milds() {
        List<Integer> all = new ArrayList<>();
        for (int p = 0; p < now.people.size(); p++) {
            for (int m = 0; m <= 9; m++) {
                World world = now.copy();
                world.people.get(p).mild = m;
                if (m != now.people.get(p).mild && so(world)) {
                    all.add(10 * p + m);
                }
            }
        }
        return all;
    }

    int milder(int what) {
        what(what, 2);
        List<Integer> all = milds();
        return what == 0 ? all.size() : what == 1 ? all.isEmpty() ? NONE : all.get(0) : so(now) ? 1 : 0;
    }

    int look(int what) {
        what(what, 1);
        List<Set<Integer>> held = new ArrayList<>();
        for (int b = 0; b < now.balls.size(); b++) {
            held.add(new HashSet<>());
        }
        for (int m : milds()) {
            World world = now.copy();
            world.people.get(m / 10).mild = m % 10;
            for (int d = 0; d < 8; d++) {
                world.pass();
            }
            for (int b = 0; b < held.size(); b++) {
                held.get(b).add(world.balls.get(b).holds);
            }
        }
        int best = NONE;
        int most = 0;
        for (int b = 0; b < held.size(); b++) {
            if (held.get(b).size() > most) {
                most = held.get(b).size();
                best = b;
            }
        }
        return what == 0 ? best : most;
    }

    private int white(World world, int ball, int days, int tenths) {
        if (days == 0) {
            return world.balls.get(ball).holds == 0 ? 1 : 0;
        }
        World calm = world.copy();
        calm.pass();
        World trodden = world.copy();
        int full = trodden.fullest(true);
        if (full != NONE) {
            trodden.goOff(Set.of(full));
        }
        trodden.pass();
        return (10 - tenths) * white(calm, ball, days - 1, tenths)
                + tenths * white(trodden, ball, days - 1, tenths);
    }

    int boys(int ball, int days, int tenths) {
        which(ball);
        in(days, 1, 5);
        in(tenths, 0, 10);
        return white(now, ball, days, tenths);
    }

    private int[] losses(int person, int other, int a, int b) {
        World world = now.copy();
        boolean[] outs = new boolean[7];
        outs[person] = a == 1;
        outs[other] = b == 1;
        for (int p = 0; p < 7; p++) {
            if (outs[p]) {
                world.goOut(p);
            }
        }
        int[] loss = {2 * a, 2 * b};
        for (int d = 0; d < 10; d++) {
            int heard = world.people.get(person).heard;
            int otherHeard = world.people.get(other).heard;
            world.pass();
            loss[0] += world.people.get(person).heard - heard + (world.shouts.contains(person) ? 4 : 0);
            loss[1] += world.people.get(other).heard - otherHeard + (world.shouts.contains(other) ? 4 : 0);
        }
        return loss;
    }

    int game(int person, int other, int what) {
        who(person);
        who(other);
        what(what, 1);
        if (person == other) {
            throw new IllegalArgumentException();
        }
        if (who(person).temper == 0 || who(other).temper == 0) {
            return NONE;
        }
        List<Integer> rest = new ArrayList<>();
        for (int a = 0; a < 2; a++) {
            for (int b = 0; b < 2; b++) {
                int[] here = losses(person, other, a, b);
                if (losses(person, other, 1 - a, b)[0] >= here[0]
                        && losses(person, other, a, 1 - b)[1] >= here[1]) {
                    rest.add(10 * a + b);
                }
            }
        }
        return what == 0 ? rest.size() : rest.isEmpty() ? NONE : rest.get(0);
    }

    private int seed;

    private int draw(int n) {
        seed = seed * 1103515245 + 12345;
        return (seed & 0x7fffffff) / 65536 % n;
    }

    int years(int seed, int n, int what) {
        what(what, 2);
        in(n, 0, 60);
        this.seed = seed;
        World world = now.copy();
        int offs = 0;
        int shouts = 0;
        for (int d = 0; d < n; d++) {
            int k = draw(5);
            if (k == 0 && !world.balls.isEmpty()) {
                int b = draw(world.balls.size());
                if (world.balls.get(b).holds > 0 && !world.balls.get(b).guarded) {
                    offs += world.goOff(Set.of(b)).size();
                }
            }
            if (k == 1 && !world.people.isEmpty()) {
                Person p = world.people.get(draw(world.people.size()));
                p.temper = draw(60);
            }
            world.pass();
            offs += world.gone.size();
            shouts += world.shouts.size();
        }
        return what == 0 ? offs : what == 1 ? shouts : world.temper();
    }

    int cell(int cell, int what) {
        where(cell);
        what(what, 1);
        int over = 0;
        int near = NONE;
        for (int b = 0; b < now.balls.size(); b++) {
            Ball ball = now.balls.get(b);
            over += ball.holds > 0 && now.reach(ball, cell) ? 1 << b : 0;
            if (near == NONE || far(ball.cell, cell) < far(now.balls.get(near).cell, cell)) {
                near = b;
            }
        }
        return what == 0 ? over : near;
    }

    int when(int person, int what) {
        who(person);
        what(what, 1);
        World world = now.copy();
        for (int d = 1; d <= 60; d++) {
            world.pass();
            if ((what == 0 ? world.outs : world.shouts).contains(person)) {
                return d;
            }
        }
        return NONE;
    }

    int ahead(int days, int what) {
        what(what, 1);
        in(days, 1 - what, 60);
        World world = now.copy();
        int calm = 0;
        for (int d = 0; d < days; d++) {
            world.pass();
            calm += world.gone.isEmpty() && world.shouts.isEmpty() ? 1 : 0;
        }
        return what == 0 ? calm : world.fullest(false);
    }

    int stays(int person, int days) {
        who(person);
        in(days, 1, 60);
        World world = now.copy();
        int sum = 0;
        for (int d = 0; d < days; d++) {
            world.pass();
            sum += Integer.bitCount(own(world, person));
        }
        return sum;
    }

    void image() {
        imageNow = now.copy();
        imageActs = new ArrayList<>();
        for (World world : acts) {
            imageActs.add(world.copy());
        }
        imageSeen = new ArrayList<>(seen);
    }

    boolean restore() {
        if (imageNow == null) {
            return false;
        }
        now = imageNow.copy();
        acts = new ArrayList<>();
        for (World world : imageActs) {
            acts.add(world.copy());
        }
        seen = new ArrayList<>(imageSeen);
        return true;
    }
}
