import java.nio.charset.StandardCharsets;
import java.util.Random;

/** Texts for the tape: how they are fed, and drawn ones, right and wrong. */
final class Text {
    private static final String[] PEOPLE_VALUES = {"mild", "temper", "shouts", "heard", "day"};
    private static final String[] BALL_VALUES = {"holds", "size", "age", "near", "day"};
    private static final String[] PIECES = {
        "person", "ball", "rises", "bursts", "downs", "holds", "not", "and", "or", "mild", "temper",
        "age", "near", "day", "x", ";", "(", ")", "+", "-", "*", "/", "<", "=", "0", "1", "7", "16",
        "99", "100", "9999", "10000", "00001", "99999999999", "?", "A", "\n", " ", "\t", "\u00e9"
    };

    private Text() {
    }

    /** The numbers of which feed() makes the text, filled up with blanks. */
    static int[][] rows(String text) {
        byte[] bytes = text.getBytes(StandardCharsets.ISO_8859_1);
        int[][] rows = new int[(bytes.length + 19) / 20][5];
        for (int i = 0; i < rows.length * 20; i++) {
            int b = i < bytes.length ? bytes[i] & 255 : ' ';
            rows[i / 20][i % 20 / 4] |= b << (24 - 8 * (i % 4));
        }
        return rows;
    }

    static String expr(Random r, boolean people, int depth) {
        int kind = r.nextInt(depth > 3 ? 2 : 10);
        String[] values = people ? PEOPLE_VALUES : BALL_VALUES;
        switch (kind) {
            case 0: return String.valueOf(r.nextInt(r.nextInt(4) == 0 ? 10000 : 30));
            case 1: return values[r.nextInt(5)];
            case 2: return "(" + expr(r, people, depth + 1) + ")";
            case 3: return "not " + expr(r, people, depth + 1);
            case 4: return expr(r, people, depth + 1) + " and " + expr(r, people, depth + 1);
            case 5: return expr(r, people, depth + 1) + " or " + expr(r, people, depth + 1);
            case 6: return "(" + expr(r, people, depth + 2) + "<" + expr(r, people, depth + 2) + ")";
            case 7: return "(" + expr(r, people, depth + 2) + "=" + expr(r, people, depth + 2) + ")";
            case 8: return "(" + expr(r, people, depth + 2) + ")" + "+-*/".charAt(r.nextInt(4))
                    + values[r.nextInt(5)];
            default: return values[r.nextInt(5)] + "+-*/".charAt(r.nextInt(4)) + r.nextInt(20);
        }
    }

    static String county(Random r) {
        StringBuilder s = new StringBuilder();
        int w = 4;
        int h = 4;
        if (r.nextInt(3) > 0) {
            w = 1 + r.nextInt(6);
            h = 1 + r.nextInt(6);
            s.append("downs ").append(w).append(' ').append(h).append(';');
        }
        int people = r.nextInt(8);
        for (int i = 0; i < people; i++) {
            s.append("person ").append(r.nextInt(w * h)).append(' ').append(r.nextInt(10)).append(' ')
                    .append(r.nextInt(r.nextBoolean() ? 30 : 100)).append(';');
        }
        if (r.nextInt(2) == 0) {
            s.append("rises ").append(expr(r, true, 0)).append(';');
        }
        int balls = r.nextInt(11);
        for (int i = 0; i < balls; i++) {
            int size = 1 + r.nextInt(99);
            s.append("ball ").append(r.nextInt(w * h)).append(' ').append(size);
            if (r.nextInt(2) == 0) {
                s.append(" holds ").append(1 + r.nextInt(size));
            }
            s.append(r.nextInt(9) == 0 ? " ;\n" : ";");
        }
        if (r.nextInt(2) == 0) {
            s.append("bursts ").append(r.nextInt(3) == 0 ? "age-" + r.nextInt(6) : expr(r, false, 0))
                    .append(';');
        }
        return s.toString();
    }

    /** A text with some pieces put in, taken out or put for others. */
    static String spoilt(Random r) {
        StringBuilder s = new StringBuilder(county(r));
        int many = 1 + r.nextInt(2);
        for (int i = 0; i < many; i++) {
            int at = r.nextInt(s.length() + 1);
            int end = Math.min(s.length(), at + (r.nextBoolean() ? 0 : r.nextInt(4)));
            String piece = r.nextInt(4) == 0 ? "" : PIECES[r.nextInt(PIECES.length)];
            s.replace(at, end, r.nextBoolean() ? piece : " " + piece + " ");
        }
        return s.toString();
    }
}
