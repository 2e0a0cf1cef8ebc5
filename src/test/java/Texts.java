import java.util.ArrayList;
import java.util.Collections;
import java.util.List;
import java.util.Random;

/** Maps, notes and laws at random, right ones and such as have been spoilt. */
final class Texts {
    private final Random random;

    Texts(Random random) {
        this.random = random;
    }

    private int below(int n) {
        return random.nextInt(n);
    }

    private char oneOf(String signs) {
        return signs.charAt(below(signs.length()));
    }

    private String upTo(int most, String text) {
        return text.length() > most ? text.substring(0, most) : text;
    }

    private String spoilt(String text, String signs) {
        StringBuilder s = new StringBuilder(text);
        for (int i = 0; i <= below(2) && s.length() > 0; i++) {
            int at = below(s.length());
            switch (below(4)) {
                case 0: s.setCharAt(at, oneOf(signs)); break;
                case 1: s.insert(at, oneOf(signs)); break;
                case 2: s.deleteCharAt(at); break;
                default: s.setLength(at); break;
            }
        }
        return s.length() == 0 ? "x" : s.toString();
    }

    String map() {
        return below(3) == 0 ? maze() : anyMap();
    }

    /** Streets between the PLACES of even X and Y, few rings among them. */
    private String maze() {
        char[] signs = "############/".repeat(8).toCharArray();
        boolean[] joined = new boolean[24];
        joined[below(24)] = true;
        for (int i = 0; i < 400; i++) {
            int x = below(6);
            int y = below(4);
            int x2 = below(2) == 0 ? x + 1 : x;
            int y2 = x2 == x ? y + 1 : y;
            if (x2 < 6 && y2 < 4 && (joined[6 * y + x] != joined[6 * y2 + x2] || below(150) == 0)) {
                joined[6 * y + x] = true;
                joined[6 * y2 + x2] = true;
                signs[26 * y + 2 * x] = '.';
                signs[26 * y2 + 2 * x2] = '.';
                signs[13 * (y + y2) + x + x2] = below(25) == 0 ? '+' : '.';
            }
        }
        return new String(signs, 0, 103);
    }

    private String anyMap() {
        StringBuilder s = new StringBuilder();
        int walls = below(4);
        int rows = below(10) == 0 ? 9 : below(3) == 0 ? 1 + below(8) : 8;
        for (int row = 0; row < rows; row++) {
            s.append(row == 0 ? "" : "/");
            int wide = below(40) == 0 ? 13 : below(4) == 0 ? 1 + below(12) : 12;
            for (int x = 0; x < wide; ) {
                int times = below(3) == 0 ? Math.min(9, 1 + below(wide - x)) : 1;
                s.append(times > 1 ? "" + times : "").append(below(5) < walls ? oneOf("##+") : oneOf("......#"));
                x += times;
            }
        }
        return upTo(110, below(5) == 0 ? spoilt(s.toString(), ".#+/123459x") : s.toString());
    }

    String notes() {
        StringBuilder s = new StringBuilder();
        int lines = below(12) == 0 ? 23 + below(4) : 1 + below(4);
        for (int i = 0; i < lines; i++) {
            s.append(i == 0 ? "" : ";");
            int hours = lines > 20 ? 10 : below(60) == 0 ? 30 : 24;
            s.append(below(hours));
            if (lines < 20 && below(3) == 0) {
                s.append(':').append(below(hours));
            }
            s.append(oneOf("-?"));
        }
        return upTo(90, below(4) == 0 ? spoilt(s.toString(), "0123456789:;-?x") : s.toString());
    }

    String law() {
        for (int i = 0; i < 1000; i++) {
            String text = below(8) == 0 ? manyRules() : below(8) == 0 ? deepRule() : rules(1 + below(6));
            text = below(5) == 0 ? spoilt(text, "cesh0129+-*/%<>=&|!()[];nbvx") : text;
            if (text.length() <= 240) {
                return text;
            }
        }
        return "c1(0=0)";
    }

    private String manyRules() {
        StringBuilder s = new StringBuilder();
        int rules = 15 + below(3);
        for (int i = 0; i < rules; i++) {
            s.append(i == 0 ? "" : ";").append(oneOf("ce")).append(below(100)).append("(").append(oneOf("hdxy"))
                .append(oneOf("<>=")).append(below(12)).append(")");
        }
        return s.toString();
    }

    /** Some six of ( [ ! in one another. */
    private String deepRule() {
        int value = 4 + below(4);
        int round = below(5);
        int angled = below(3);
        String inner = "[".repeat(angled) + "h" + "]".repeat(angled) + "<9";
        for (int i = 0; i < round + below(2); i++) {
            inner = below(2) == 0 ? "!" + inner : "(" + inner + (below(3) == 0 ? "|" + inner : "") + ")";
        }
        return "c" + "[".repeat(value) + "d" + "]".repeat(value) + "(" + inner + ");" + rules(1);
    }

    private String rules(int rules) {
        List<String> all = new ArrayList<>();
        for (int i = 0; i < rules; i++) {
            // Without the first two he would seldom come down and go.
            all.add(rule(i == 0 ? 'c' : i == 1 ? 'e' : oneOf("cees")));
        }
        Collections.shuffle(all, random);
        return String.join(";", all);
    }

    private String rule(char letter) {
        String letters = letter == 'c' ? "hd" : "hdmxywnbv";
        String value = letter == 's' ? "" : sum(letters, 2);
        return letter + value + "(" + (below(3) == 0 ? "0=0" : claim(letters, 3)) + ")";
    }

    private String claim(String letters, int depth) {
        StringBuilder s = new StringBuilder(test(letters, depth));
        for (int i = below(6); i > 3; i--) {
            s.append(oneOf("&|")).append(test(letters, depth));
        }
        return s.toString();
    }

    private String test(String letters, int depth) {
        if (depth > 0 && below(5) == 0) {
            return "!" + test(letters, depth - 1);
        }
        if (depth > 0 && below(5) == 0) {
            return "(" + claim(letters, depth - 1) + ")";
        }
        return sum(letters, depth - 1) + oneOf("<>=") + sum(letters, depth - 1);
    }

    private String sum(String letters, int depth) {
        StringBuilder s = new StringBuilder(factor(letters, depth));
        for (int i = below(5); i > 2; i--) {
            s.append(oneOf("+-*/%")).append(factor(letters, depth));
        }
        return s.toString();
    }

    private String factor(String letters, int depth) {
        if (depth > 0 && below(6) == 0) {
            return "[" + sum(letters, depth - 1) + "]";
        }
        if (below(5) < 3) {
            return "" + oneOf(letters);
        }
        return "" + (below(8) == 0 ? below(100000) : below(4) == 0 ? below(60) : below(8));
    }
}
