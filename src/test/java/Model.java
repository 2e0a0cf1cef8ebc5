import java.util.ArrayDeque;
import java.util.ArrayList;
import java.util.Arrays;
import java.util.Collections;
import java.util.List;

/** The document once more, slow and plain and by other ways than the program's, to be held against it. */
final class Model {
    private static final int[] DX = {0, 1, 0, -1};
    private static final int[] DY = {-1, 0, 1, 0};

    private static final class Fault extends RuntimeException {
        private static final long serialVersionUID = 1L;
        final int answer;

        Fault(int number, int place) {
            this.answer = -1000 * number - place;
        }
    }

    private static final class Refused extends RuntimeException {
        private static final long serialVersionUID = 1L;
    }

    private interface Number {
        int of(int[] letters);
    }

    private interface Claim {
        boolean holds(int[] letters);
    }

    private static final class Rule {
        char letter;
        Number value;
        Claim claim;
    }

    private static final class Walk {
        int hour = -2;
        int[] at = new int[60];
        int steps;
        int doors;
        int far;
    }

    private static final class State {
        int[] wear = new int[96];
        int day = 0;
        int x = 1;
        Walk walk = new Walk();

        State copy() {
            State s = new State();
            s.wear = wear.clone();
            s.day = day;
            s.x = x;
            s.walk = walk; // a walk is made anew each day, never changed
            return s;
        }
    }

    private final char[] map = new char[96];
    private int square = 0;
    private final int[] doors = new int[10];
    private List<Rule> rules = new ArrayList<>();
    private boolean[] watched = new boolean[24];
    private final List<Integer> tape = new ArrayList<>();
    private State now = new State();
    private State kept = null;
    private int[][] chaseTable = null;

    Model() {
        Arrays.fill(map, '.');
        Arrays.fill(doors, -1);
    }

    // ---- the law's text

    private String text;
    private int at;

    private int sign() {
        return at < text.length() ? text.charAt(at) : -1;
    }

    private boolean sees(String signs) {
        return at < text.length() && signs.indexOf(text.charAt(at)) >= 0;
    }

    private void eat(char c) {
        if (sign() != c) {
            throw new Fault(1, at);
        }
        at++;
    }

    private List<Rule> parseLaw(String whole) {
        text = whole;
        at = 0;
        List<Rule> found = new ArrayList<>();
        while (true) {
            if (!sees("ces")) {
                throw new Fault(1, at);
            }
            if (found.size() == 16) {
                throw new Fault(4, at);
            }
            Rule rule = new Rule();
            rule.letter = text.charAt(at++);
            rule.value = rule.letter == 's' ? l -> 0 : parseE(0);
            eat('(');
            rule.claim = parseC(1);
            eat(')');
            found.add(rule);
            if (at == text.length()) {
                return found;
            }
            eat(';');
        }
    }

    private Claim parseC(int depth) {
        List<Claim> parts = new ArrayList<>();
        parts.add(parsePart(depth));
        while (sign() == '|') {
            at++;
            parts.add(parsePart(depth));
        }
        return l -> {
            for (Claim c : parts) {
                if (c.holds(l)) {
                    return true;
                }
            }
            return false;
        };
    }

    private Claim parsePart(int depth) {
        List<Claim> tests = new ArrayList<>();
        tests.add(parseTest(depth));
        while (sign() == '&') {
            at++;
            tests.add(parseTest(depth));
        }
        return l -> {
            for (Claim c : tests) {
                if (!c.holds(l)) {
                    return false;
                }
            }
            return true;
        };
    }

    private int deeper(int depth) {
        if (depth == 6) {
            throw new Fault(5, at);
        }
        at++;
        return depth + 1;
    }

    private Claim parseTest(int depth) {
        if (sign() == '!') {
            Claim c = parseTest(deeper(depth));
            return l -> !c.holds(l);
        }
        if (sign() == '(') {
            Claim c = parseC(deeper(depth));
            eat(')');
            return c;
        }
        Number left = parseE(depth);
        if (!sees("<>=")) {
            throw new Fault(1, at);
        }
        char how = text.charAt(at++);
        Number right = parseE(depth);
        return l -> {
            int a = left.of(l);
            int b = right.of(l);
            return how == '<' ? a < b : how == '>' ? a > b : a == b;
        };
    }

    private Number parseE(int depth) {
        Number sum = parseTerm(depth);
        while (sees("+-")) {
            char how = text.charAt(at++);
            Number a = sum;
            Number b = parseTerm(depth);
            sum = l -> how == '+' ? a.of(l) + b.of(l) : a.of(l) - b.of(l);
        }
        return sum;
    }

    private Number parseTerm(int depth) {
        Number product = parseFactor(depth);
        while (sees("*/%")) {
            char how = text.charAt(at++);
            Number a = product;
            Number b = parseFactor(depth);
            product = l -> reckon(how, a.of(l), b.of(l));
        }
        return product;
    }

    private static int reckon(char how, int a, int b) {
        if (how == '*') {
            return a * b;
        }
        if (b == 0) {
            throw new Refused();
        }
        return how == '/' ? a / b : a % b;
    }

    private Number parseFactor(int depth) {
        if (sign() == '[') {
            Number inner = parseE(deeper(depth));
            eat(']');
            return inner;
        }
        if (sees("0123456789")) {
            int start = at;
            while (sees("0123456789")) {
                if (at - start == 5) {
                    throw new Fault(2, at);
                }
                at++;
            }
            int value = Integer.parseInt(text.substring(start, at));
            return l -> value;
        }
        if (!sees("hdmxywnbv")) {
            throw new Fault(1, at);
        }
        int letter = "hdmxywnbv".indexOf(text.charAt(at++));
        return l -> l[letter];
    }

    private int byLaw(char letter, int most, int[] letters) {
        for (Rule rule : rules) {
            if (rule.letter == letter && holds(rule, letters)) {
                int value;
                try {
                    value = rule.value.of(letters);
                } catch (Refused refused) {
                    value = 0;
                }
                return value < 0 ? 0 : value > most ? most : value;
            }
        }
        return 0;
    }

    private static boolean holds(Rule rule, int[] letters) {
        try {
            return rule.claim.holds(letters);
        } catch (Refused refused) {
            return false;
        }
    }

    private int weight(int hour, int day) {
        return byLaw('c', 99, new int[] {hour, day % 7, 0, 0, 0, 0, 0, 0, 0});
    }

    // ---- ways

    private boolean open(int p, boolean noNewWalls) {
        return p == square || map[p] == '.' || (noNewWalls && map[p] == '+');
    }

    private static int next(int p, int way) {
        int x = p % 12 + DX[way];
        int y = p / 12 + DY[way];
        return x < 0 || y < 0 || x > 11 || y > 7 ? -1 : 12 * y + x;
    }

    private List<Integer> openBeside(int p) {
        List<Integer> found = new ArrayList<>();
        for (int way = 0; way < 4; way++) {
            int q = next(p, way);
            if (q >= 0 && open(q, false)) {
                found.add(q);
            }
        }
        return found;
    }

    private int[] stepsFrom(int from, boolean noNewWalls, int without) {
        int[] steps = new int[96];
        Arrays.fill(steps, 99);
        if (from < 0 || !open(from, noNewWalls)) {
            return steps;
        }
        ArrayDeque<Integer> queue = new ArrayDeque<>();
        steps[from] = 0;
        queue.add(from);
        while (!queue.isEmpty()) {
            int p = queue.remove();
            for (int way = 0; way < 4; way++) {
                int q = next(p, way);
                if (q >= 0 && q != without && open(q, noNewWalls) && steps[q] == 99) {
                    steps[q] = steps[p] + 1;
                    queue.add(q);
                }
            }
        }
        return steps;
    }

    private static int place(int x, int y) {
        return x < 0 || x > 11 || y < 0 || y > 7 ? -1 : 12 * y + x;
    }

    // ---- a day

    private void goDay(State s) {
        Walk walk = new Walk();
        int total = 0;
        for (int h = 0; h < 24; h++) {
            total += weight(h, s.day);
        }
        if (total > 0) {
            s.x = (int) ((25173L * s.x + 13849L) % 65536L);
            int draw = s.x % total;
            int sum = 0;
            for (int h = 0; h < 24; h++) {
                sum += weight(h, s.day);
                if (sum > draw) {
                    walk.hour = h;
                    break;
                }
            }
            goHour(s, walk);
        }
        s.walk = walk;
        s.day++;
    }

    private void goHour(State s, Walk walk) {
        int[] home = stepsFrom(square, false, -1);
        int[] nine = stepsFrom(doors[9], false, -1);
        int p = square;
        for (int m = 0; m < 60; m++) {
            int to = p;
            if (p != square && home[p] >= 59 - m) {
                for (int q : openBeside(p)) {
                    if (home[q] == home[p] - 1) {
                        to = q;
                        break;
                    }
                }
            } else if (!stands(letters(s, walk, m, p, home, nine))) {
                int best = 0;
                for (int q : openBeside(p)) {
                    int e = byLaw('e', 9999, letters(s, walk, m, q, home, nine));
                    if (e > best) {
                        best = e;
                        to = q;
                    }
                }
            }
            if (to != p) {
                walk.steps++;
                s.wear[to] = Math.min(9999, s.wear[to] + 1);
                for (int k = 1; k <= 9; k++) {
                    if (doors[k] == to) {
                        walk.doors |= 1 << k;
                    }
                }
            }
            p = to;
            walk.at[m] = p;
            walk.far = Math.max(walk.far, home[p]);
        }
    }

    private boolean stands(int[] letters) {
        for (Rule rule : rules) {
            if (rule.letter == 's' && holds(rule, letters)) {
                return true;
            }
        }
        return false;
    }

    private static int[] letters(State s, Walk walk, int m, int p, int[] home, int[] nine) {
        return new int[] {walk.hour, s.day % 7, m, p % 12, p / 12, s.wear[p], nine[p], home[p],
            Integer.bitCount(walk.doors)};
    }

    // ---- the face

    boolean square(int x, int y) {
        if (place(x, y) < 0) {
            return false;
        }
        square = place(x, y);
        chaseTable = null;
        return true;
    }

    boolean door(int k, int x, int y) {
        if (place(x, y) < 0 || k < 1 || k > 9) {
            return false;
        }
        doors[k] = place(x, y);
        return true;
    }

    int feed(int a, int b, int c, int d, int e) {
        if (tape.size() + 20 > 260) {
            return -1;
        }
        for (int word : new int[] {a, b, c, d, e}) {
            for (int shift = 24; shift >= 0; shift -= 8) {
                tape.add(word >> shift & 255);
            }
        }
        return tape.size();
    }

    private String takeText(int n) {
        StringBuilder s = new StringBuilder();
        for (int i = 0; i < n; i++) {
            s.append((char) (int) tape.get(i));
        }
        tape.clear();
        return s.toString();
    }

    int law(int n) {
        if (n < 1 || n > 240 || n > tape.size()) {
            return -1;
        }
        try {
            rules = parseLaw(takeText(n));
            return rules.size();
        } catch (Fault fault) {
            return fault.answer;
        }
    }

    int map(int n) {
        if (n < 1 || n > 110 || n > tape.size()) {
            return -1;
        }
        try {
            return parseMap(takeText(n));
        } catch (Fault fault) {
            return fault.answer;
        }
    }

    private int parseMap(String whole) {
        text = whole;
        at = 0;
        char[] draft = new char[96];
        Arrays.fill(draft, '.');
        int rows = 0;
        while (true) {
            if (!sees(".#+23456789")) {
                throw new Fault(1, at);
            }
            if (rows == 8) {
                throw new Fault(4, at);
            }
            int wide = 0;
            while (sees(".#+23456789")) {
                int start = at;
                int times = 1;
                if (sees("23456789")) {
                    times = text.charAt(at++) - '0';
                }
                if (!sees(".#+")) {
                    throw new Fault(1, at);
                }
                char sign = text.charAt(at++);
                if (wide + times > 12) {
                    throw new Fault(6, start);
                }
                for (int i = 0; i < times; i++) {
                    draft[12 * rows + wide++] = sign;
                }
            }
            rows++;
            if (at == text.length()) {
                break;
            }
            eat('/');
        }
        System.arraycopy(draft, 0, map, 0, 96);
        chaseTable = null;
        return rows;
    }

    int notes(int n) {
        if (n < 1 || n > 90 || n > tape.size()) {
            return -1;
        }
        try {
            return parseNotes(takeText(n));
        } catch (Fault fault) {
            return fault.answer;
        }
    }

    private int parseNotes(String whole) {
        text = whole;
        at = 0;
        boolean[] draft = watched.clone();
        int lines = 0;
        while (true) {
            if (lines == 24 && sees("0123456789")) {
                throw new Fault(4, at);
            }
            int first = parseHour();
            int last = first;
            if (sign() == ':') {
                at++;
                last = parseHour();
            }
            if (!sees("-?")) {
                throw new Fault(1, at);
            }
            boolean mark = text.charAt(at++) == '-';
            for (int h = first; ; h = h == 23 ? 0 : h + 1) {
                draft[h] = mark;
                if (h == last) {
                    break;
                }
            }
            lines++;
            if (at == text.length()) {
                watched = draft;
                return lines;
            }
            eat(';');
        }
    }

    private int parseHour() {
        int start = at;
        while (sees("0123456789")) {
            if (at - start == 2) {
                throw new Fault(2, at);
            }
            at++;
        }
        if (at == start) {
            throw new Fault(1, at);
        }
        int hour = Integer.parseInt(text.substring(start, at));
        if (hour > 23) {
            throw new Fault(3, start);
        }
        return hour;
    }

    int days(int n) {
        if (n < 1 || n > 30) {
            return -1;
        }
        int steps = 0;
        for (int i = 0; i < n && now.day < 9999; i++) {
            goDay(now);
            steps += now.walk.steps;
        }
        return steps;
    }

    int tried(int n, int what) {
        if (n < 1 || n > 30 || what < 0 || what > 195 || (what > 3 && what < 100)) {
            return -1;
        }
        State s = now.copy();
        int[] answers = {0, 0, 0, -2};
        for (int i = 0; i < n && s.day < 9999; i++) {
            goDay(s);
            answers[0] += s.walk.steps;
            answers[1] += s.walk.hour == -2 ? 0 : 1;
            answers[2] += Integer.bitCount(s.walk.doors);
            answers[3] = s.walk.hour;
        }
        return what < 4 ? answers[what] : s.wear[what - 100];
    }

    int placeIs(int x, int y, int what) {
        int p = place(x, y);
        if (p < 0 || what < 0 || what > 4) {
            return -1;
        }
        int kind = open(p, false) ? 2 : map[p] == '+' ? 1 : 0;
        return new int[] {kind, now.wear[p], stepsFrom(square, false, -1)[p],
            stepsFrom(doors[9], false, -1)[p], openBeside(p).size()}[what];
    }

    private static int gcd(int a, int b) {
        return b == 0 ? a : gcd(b, a % b);
    }

    private int unwatchedWeight() {
        int sum = 0;
        for (int h = 0; h < 24; h++) {
            sum += watched[h] ? 0 : weight(h, now.day);
        }
        return sum;
    }

    int likely(int hour, int what) {
        if (hour < 0 || hour > 23 || what < 0 || what > 1) {
            return -1;
        }
        int below = unwatchedWeight();
        if (watched[hour] || below == 0) {
            return -2;
        }
        int above = weight(hour, now.day);
        return (what == 0 ? above : below) / gcd(above, below);
    }

    int watch(int k, int what) {
        if (k < 1 || k > 6 || what < 0 || what > 2) {
            return -1;
        }
        int below = unwatchedWeight();
        int[] best = {-1, 0};
        int[] weights = new int[24];
        for (int h = 0; h < 24; h++) {
            weights[h] = weight(h, now.day);
        }
        tryHours(weights, 0, k, 0, 0, best);
        if (best[0] < 0 || below == 0) {
            return -2;
        }
        return what == 0 ? best[1] : (what == 1 ? best[0] : below) / gcd(best[0], below);
    }

    private void tryHours(int[] weights, int h, int left, int sum, int bits, int[] best) {
        if (left == 0) {
            if (sum > best[0] || (sum == best[0] && bits < best[1])) {
                best[0] = sum;
                best[1] = bits;
            }
        } else if (h < 24) {
            tryHours(weights, h + 1, left, sum, bits, best);
            if (!watched[h]) {
                tryHours(weights, h + 1, left - 1, sum + weights[h], bits | 1 << h, best);
            }
        }
    }

    int sure(int hundredths) {
        if (hundredths < 1 || hundredths > 100) {
            return -1;
        }
        int below = unwatchedWeight();
        if (below == 0) {
            return -2;
        }
        List<Integer> weights = new ArrayList<>();
        for (int h = 0; h < 24; h++) {
            if (!watched[h]) {
                weights.add(weight(h, now.day));
            }
        }
        weights.sort(Collections.reverseOrder());
        int sum = 0;
        for (int k = 1; k <= weights.size(); k++) {
            sum += weights.get(k - 1);
            if (100 * sum >= hundredths * below) {
                return k;
            }
        }
        return -99;
    }

    int walk(int what) {
        if (what < 0 || what > 103 || (what > 59 && what < 100)) {
            return -1;
        }
        Walk w = now.walk;
        if (w.hour == -2) {
            return -2;
        }
        return what < 60 ? w.at[what] : new int[] {w.hour, w.steps, w.doors, w.far}[what - 100];
    }

    int worn() {
        int most = Arrays.stream(now.wear).max().getAsInt();
        for (int p = 0; p < 96 && most > 0; p++) {
            if (now.wear[p] == most) {
                return p;
            }
        }
        return -2;
    }

    int far(int minutes) {
        if (minutes < 0 || minutes > 60) {
            return -1;
        }
        int found = 0;
        for (int steps : stepsFrom(square, false, -1)) {
            found += steps <= minutes && steps + steps <= 60 ? 1 : 0;
        }
        return found;
    }

    int calls(int minutes, int what) {
        if (minutes < 1 || minutes > 60 || what < 0 || (what > 8 && what != 100 && what != 101)) {
            return -1;
        }
        int[][] between = new int[10][];
        for (int k = 0; k < 10; k++) {
            between[k] = stepsFrom(k == 0 ? square : doors[k], false, -1);
        }
        int[] best = {0, 0};
        List<Integer> row = new ArrayList<>();
        tryDoors(between, minutes, 0, 0, new ArrayList<>(), row, best);
        if (what == 100) {
            return best[0];
        }
        if (what == 101) {
            return best[1];
        }
        return what < row.size() ? row.get(what) : -4;
    }

    // Rows are tried from the least on, so the first of like ones stays.
    private void tryDoors(int[][] between, int minutes, int from, int steps, List<Integer> row,
            List<Integer> bestRow, int[] best) {
        int back = steps + between[from][square];
        if (back > minutes) {
            return;
        }
        if (row.size() > best[0] || (row.size() == best[0] && back < best[1])) {
            best[0] = row.size();
            best[1] = back;
            bestRow.clear();
            bestRow.addAll(row);
        }
        for (int k = 1; k <= 9; k++) {
            if (doors[k] >= 0 && !row.contains(k)) {
                row.add(k);
                tryDoors(between, minutes, k, steps + between[from][doors[k]], row, bestRow, best);
                row.remove(row.size() - 1);
            }
        }
    }

    int old(int x, int y) {
        int p = place(x, y);
        if (p < 0) {
            return -1;
        }
        int steps = stepsFrom(square, true, -1)[p];
        return steps == 99 ? -2 : steps;
    }

    int barred(int x, int y, int what) {
        int p = place(x, y);
        if (p < 0 || what < 0 || what > 1) {
            return -1;
        }
        // The cost of a PLACE: of a way at all the walls, of a short one the steps, then the walls.
        int each = what == 0 ? 0 : 1000;
        int[] cost = new int[96];
        boolean[] settled = new boolean[96];
        Arrays.fill(cost, Integer.MAX_VALUE);
        cost[square] = 0;
        while (true) {
            int near = -1;
            for (int q = 0; q < 96; q++) {
                if (!settled[q] && cost[q] < Integer.MAX_VALUE && (near < 0 || cost[q] < cost[near])) {
                    near = q;
                }
            }
            if (near < 0) {
                break;
            }
            settled[near] = true;
            for (int way = 0; way < 4; way++) {
                int q = next(near, way);
                if (q >= 0 && open(q, true)) {
                    cost[q] = Math.min(cost[q], cost[near] + each + (open(q, false) ? 0 : 1));
                }
            }
        }
        return cost[p] == Integer.MAX_VALUE ? -2 : cost[p] % 1000;
    }

    int chase(int king, int thief) {
        if (king < 0 || king > 95 || thief < 0 || thief > 95 || !open(king, false) || !open(thief, false)) {
            return -1;
        }
        if (chaseTable == null) {
            chaseTable = makeChase();
        }
        return chaseTable[king][thief] > 60 ? -2 : chaseTable[king][thief];
    }

    private int[][] makeChase() {
        int never = 1000;
        int[][] value = new int[96][96];
        for (int k = 0; k < 96; k++) {
            Arrays.fill(value[k], never);
            value[k][k] = 0;
        }
        for (boolean changed = true; changed; ) {
            changed = false;
            for (int k = 0; k < 96; k++) {
                for (int t = 0; t < 96 && open(k, false); t++) {
                    if (k != t && open(t, false)) {
                        int better = kingMoves(value, k, t);
                        changed |= better < value[k][t];
                        value[k][t] = Math.min(value[k][t], better);
                    }
                }
            }
        }
        return value;
    }

    private int kingMoves(int[][] value, int k, int t) {
        int best = 1000;
        List<Integer> kings = openBeside(k);
        kings.add(k);
        List<Integer> thieves = openBeside(t);
        thieves.add(t);
        for (int k2 : kings) {
            int worst = 0;
            for (int t2 : thieves) {
                worst = k2 == t ? 0 : Math.max(worst, value[k2][t2]);
            }
            best = Math.min(best, 1 + worst);
        }
        return best;
    }

    int lovers(int n, int what) {
        if (n < 2 || n > 4 || what < 0 || what > 1 || tape.size() < n) {
            return -1;
        }
        String who = takeText(n);
        List<int[]> ways = new ArrayList<>();
        for (char c : who.toCharArray()) {
            if (c > 95 || !open(c, false)) {
                return -3;
            }
            ways.add(stepsFrom(c, false, -1));
        }
        int best = Integer.MAX_VALUE;
        int sum = -2;
        int answer = -2;
        for (int p = 0; p < 96; p++) {
            int all = 0;
            int most = 0;
            for (int[] steps : ways) {
                all += steps[p];
                most = Math.max(most, steps[p]);
            }
            if (most < 99 && 1000 * all + most < best) {
                best = 1000 * all + most;
                sum = all;
                answer = p;
            }
        }
        return what == 0 ? answer : sum;
    }

    int benches(int n, int what) {
        if (n < 1 || n > 2 || what < 0 || what > 2) {
            return -1;
        }
        int[][] ways = new int[96][];
        for (int p = 0; p < 96; p++) {
            ways[p] = stepsFrom(p, false, -1);
        }
        int[] best = {-2, -2, 0};
        for (int p = 0; p < 96; p++) {
            for (int q = n == 1 ? p : p + 1; q < (n == 1 ? p + 1 : 96); q++) {
                if (!open(p, false) || !open(q, false)) {
                    continue;
                }
                int near = 0;
                for (int r = 0; r < 96; r++) {
                    near += now.wear[r] > 0 && Math.min(ways[p][r], ways[q][r]) <= 2 ? 1 : 0;
                }
                if (near > best[2]) {
                    best = new int[] {p, n == 1 ? -2 : q, near};
                }
            }
        }
        return best[2] == 0 ? -2 : best[what];
    }

    int pigeons(int what) {
        if (what < 0 || what > 1 || tape.size() < 24) {
            return -1;
        }
        String t = takeText(24);
        int best = -1;
        int answer = -1;
        for (int h = 0; h < 24; h++) {
            int unlike = Math.abs(2 * t.charAt(h) - t.charAt(h == 0 ? 23 : h - 1) - t.charAt(h == 23 ? 0 : h + 1));
            if (unlike > best) {
                best = unlike;
                answer = h;
            }
        }
        return what == 0 ? answer : best;
    }

    int streets(int what) {
        if (what < 0 || what > 6) {
            return -1;
        }
        int islands = 0;
        int dead = 0;
        int pairs = 0;
        int crossings = 0;
        int all = 0;
        boolean[] seen = new boolean[96];
        for (int p = 0; p < 96; p++) {
            if (!open(p, false)) {
                continue;
            }
            all++;
            int beside = openBeside(p).size();
            pairs += beside;
            dead += beside < 2 ? 1 : 0;
            crossings += beside == 4 ? 1 : 0;
            if (!seen[p]) {
                islands++;
                int[] steps = stepsFrom(p, false, -1);
                for (int q = 0; q < 96; q++) {
                    seen[q] |= steps[q] < 99;
                }
            }
        }
        int cuts = 0;
        int lowest = -2;
        int[] with = stepsFrom(square, false, -1);
        for (int p = 95; p >= 0; p--) {
            if (p != square && open(p, false)) {
                int[] without = stepsFrom(square, false, p);
                boolean cut = false;
                for (int q = 0; q < 96; q++) {
                    cut |= q != p && with[q] < 99 && without[q] == 99;
                }
                cuts += cut ? 1 : 0;
                lowest = cut ? p : lowest;
            }
        }
        return new int[] {islands, dead, pairs / 2 - all + islands, crossings, all, cuts, lowest}[what];
    }

    boolean seed(int x) {
        if (x < 0 || x > 65535) {
            return false;
        }
        now.x = x;
        return true;
    }

    int keep() {
        kept = now.copy();
        return now.day;
    }

    boolean undo() {
        if (kept == null) {
            return false;
        }
        now = kept.copy();
        return true;
    }

    int check(int y, int n) {
        if (y < 0 || y > 7 || n < 0 || n > 12 || tape.size() < n) {
            return -2;
        }
        String t = takeText(n);
        for (int x = 0; x < n; x++) {
            if (now.wear[12 * y + x] % 256 != t.charAt(x)) {
                return x;
            }
        }
        return -1;
    }

    int count(int what) {
        int bits = 0;
        switch (what) {
            case 0: return now.day;
            case 1:
                for (int h = 0; h < 24; h++) {
                    bits |= watched[h] ? 1 << h : 0;
                }
                return bits;
            case 2:
                for (int k = 1; k < 10; k++) {
                    bits |= doors[k] >= 0 ? 1 << k : 0;
                }
                return bits;
            case 3: return square;
            case 4: return rules.size();
            case 5: return tape.size();
            case 6: return now.x;
            case 7: return Arrays.stream(now.wear).sum();
            case 8:
                for (int h = 0; h < 24; h++) {
                    bits += weight(h, now.day);
                }
                return bits;
            default: break;
        }
        if (what >= 11 && what <= 19) {
            return doors[what - 10];
        }
        return what >= 100 && what <= 123 ? weight(what - 100, now.day) : -1;
    }
}
