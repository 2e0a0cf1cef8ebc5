import java.util.Random;

/** Maps, notes and laws at random, right ones and such as have been spoilt. */
final class Texts {
    private final Random random;

    Texts(Random random) {
        this.random = random;
    }

    private int below(int n) {
        return random.nextInt(n);
    }

    private char oneOf(String signs) {
        return signs.charAt(below(signs.length()));
    }

    private String upTo(int most, String text) {
        return text.length() > most ? text.substring(0, most) : text;
    }

    private String spoilt(String text, String signs) {
        StringBuilder s = new StringBuilder(text);
        for (int i = 0; i <= below(2) && s.length() > 0; i++) {
            int at = below(s.length());
            switch (below(4)) {
                case 0: s.setCharAt(at, oneOf(signs)); break;
                case 1: s.insert(at, oneOf(signs)); break;
                case 2: s.deleteCharAt(at); break;
                default: s.setLength(at); break;
            }
        }
        return s.length() == 0 ? "x" : s.toString();
    }

    String map() {
        StringBuilder s = new StringBuilder();
        int walls = below(4);
        int rows = below(10) == 0 ? 9 : below(3) == 0 ? 1 + below(8) : 8;
        for (int row = 0; row < rows; row++) {
            s.append(row == 0 ? "" : "/");
            int wide = below(40) == 0 ? 13 : below(4) == 0 ? 1 + below(12) : 12;
            for (int x = 0; x < wide; ) {
                int times = below(3) == 0 ? Math.min(9, 1 + below(wide - x)) : 1;
                s.append(times > 1 ? "" + times : "").append(below(5) < walls ? oneOf("##+") : oneOf("......#"));
                x += times;
            }
        }
        return upTo(110, below(5) == 0 ? spoilt(s.toString(), ".#+/123459x") : s.toString());
    }

    String notes() {
        StringBuilder s = new StringBuilder();
        int lines = below(12) == 0 ? 23 + below(4) : 1 + below(4);
        for (int i = 0; i < lines; i++) {
            s.append(i == 0 ? "" : ";");
            int hours = lines > 20 ? 10 : below(60) == 0 ? 30 : 24;
            s.append(below(hours));
            if (lines < 20 && below(3) == 0) {
                s.append(':').append(below(hours));
            }
            s.append(oneOf("-?"));
        }
        return upTo(90, below(4) == 0 ? spoilt(s.toString(), "0123456789:;-?x") : s.toString());
    }

    String law() {
        for (int i = 0; i < 1000; i++) {
            String text = below(8) == 0 ? manyRules() : rules(1 + below(6));
            text = below(5) == 0 ? spoilt(text, "cesh0129+-*/%<>=&|!()[];nbvx") : text;
            if (text.length() <= 240) {
                return text;
            }
        }
        return "c1(0=0)";
    }

    private String manyRules() {
        StringBuilder s = new StringBuilder();
        int rules = 15 + below(3);
        for (int i = 0; i < rules; i++) {
            s.append(i == 0 ? "" : ";").append(oneOf("ce")).append(below(100)).append("(").append(oneOf("hdxy"))
                .append(oneOf("<>=")).append(below(12)).append(")");
        }
        return s.toString();
    }

    private String rules(int rules) {
        StringBuilder s = new StringBuilder();
        for (int i = 0; i < rules; i++) {
            s.append(i == 0 ? "" : ";");
            // Without the first two he would seldom come down and go.
            char letter = i == 0 ? 'c' : i == 1 ? 'e' : oneOf("cees");
            s.append(letter);
            if (letter != 's') {
                s.append(sum(letter == 'c' ? "hd" : "hdmxywnbv", 2));
            }
            s.append('(').append(below(3) == 0 ? "0=0" : claim(letter == 'c' ? "hd" : "hdmxywnbv", 3)).append(')');
        }
        return s.toString();
    }

    private String claim(String letters, int depth) {
        StringBuilder s = new StringBuilder(test(letters, depth));
        for (int i = below(6); i > 3; i--) {
            s.append(oneOf("&|")).append(test(letters, depth));
        }
        return s.toString();
    }

    private String test(String letters, int depth) {
        if (depth > 0 && below(5) == 0) {
            return "!" + test(letters, depth - 1);
        }
        if (depth > 0 && below(5) == 0) {
            return "(" + claim(letters, depth - 1) + ")";
        }
        return sum(letters, depth - 1) + oneOf("<>=") + sum(letters, depth - 1);
    }

    private String sum(String letters, int depth) {
        StringBuilder s = new StringBuilder(factor(letters, depth));
        for (int i = below(5); i > 2; i--) {
            s.append(oneOf("+-*/%")).append(factor(letters, depth));
        }
        return s.toString();
    }

    private String factor(String letters, int depth) {
        if (depth > 0 && below(6) == 0) {
            return "[" + sum(letters, depth - 1) + "]";
        }
        if (below(5) < 3) {
            return "" + oneOf(letters);
        }
        return "" + (below(8) == 0 ? below(100000) : below(4) == 0 ? below(60) : below(8));
    }
}
