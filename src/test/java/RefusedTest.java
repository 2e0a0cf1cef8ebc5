import java.util.ArrayList;
import java.util.List;

/**
 * "A call that is refused (NONE, false) changes nothing but the tape, where it is told": two objects with the same
 * calls behind them, one of them refused one more; then both are asked everything that can be asked.
 */
public final class RefusedTest {
    private interface Call {
        int of(BronzeKing king);
    }

    private static final int[] BESIDE = {Integer.MIN_VALUE, -256, -1, 97, 260, 1000, 65536, Integer.MAX_VALUE};
    /** Few enough for one object, with the calls of its story. */
    private static final int A_RUN = 400;

    private static final List<Call> QUESTIONS = questions();
    private static final List<Call> CHANGES = changes();

    private RefusedTest() {
    }

    public static void main(String[] args) {
        places();
        texts();
        faults();
        days();
        hours();
        ways();
        loversAndBenches();
        tapes();
        undoAndSeed();
        numbers();
        askingChangesNothing();
        Due.end();
    }

    // ---- what is asked

    private static List<Call> questions() {
        List<Call> all = new ArrayList<>();
        for (int what = 0; what < 124; what++) {
            int asked = what;
            all.add(king -> king.count(asked));
            all.add(king -> king.walk(asked));
            all.add(king -> king.tried(2, asked));
        }
        for (int place = 0; place < 96; place++) {
            int x = place % 12;
            int y = place / 12;
            for (int what = 0; what < 5; what++) {
                int asked = what;
                all.add(king -> king.placeIs(x, y, asked));
            }
            all.add(king -> king.old(x, y));
            all.add(king -> king.barred(x, y, 1));
        }
        for (int i = 0; i < 24; i++) {
            int asked = i;
            all.add(king -> king.likely(asked, 0));
            all.add(king -> king.watch(asked / 4 + 1, asked % 3));
            all.add(king -> king.sure(4 * asked + 1));
            all.add(king -> king.streets(asked % 7));
            all.add(king -> king.far(asked));
            all.add(king -> king.calls(60, asked < 9 ? asked : asked % 2 + 100));
            all.add(king -> king.benches(asked % 2 + 1, asked % 3));
        }
        all.add(king -> king.chase(13, 15));
        all.add(BronzeKing::worn);
        return all;
    }

    /** What is asked last, of an object of its own, for it changes something. */
    private static List<Call> changes() {
        List<Call> all = new ArrayList<>();
        all.add(king -> sum(king, king.law(7)));
        all.add(king -> sum(king, king.law(20)));
        all.add(king -> sum(king, king.map(2)));
        all.add(king -> sum(king, king.notes(2)));
        all.add(king -> sum(king, king.lovers(2, 0)));
        all.add(king -> sum(king, king.pigeons(0)));
        all.add(king -> sum(king, king.pigeons(1)));
        all.add(king -> sum(king, king.check(0, 12)));
        all.add(king -> sum(king, king.feed(1, 2, 3, 4, 5)));
        all.add(king -> sum(king, king.undo() ? 1 : 0));
        all.add(king -> sum(king, king.days(3)));
        all.add(king -> sum(king, king.keep()));
        return all;
    }

    private static int sum(BronzeKing king, int answer) {
        int sum = answer;
        for (int what : new int[] {0, 1, 4, 5, 6, 7, 8}) {
            sum = 31 * sum + king.count(what);
        }
        for (int what : new int[] {3, 20, 59, 100, 101, 102, 103}) {
            sum = 31 * sum + king.walk(what);
        }
        return sum;
    }

    // ---- the story and its twin

    private static final String LAW = "c9(h=4);c2(h<9);e30-w(y<5);s(w>20)";

    /** A town with all that can be told of it, DAYS behind it and so many bytes on the tape. */
    private static BronzeKing busy(boolean isKept, int tapes) {
        BronzeKing king = new BronzeKing();
        Due.map(king, "6.+5./.#4.#5./4.+7.");
        Due.law(king, LAW);
        Due.notes(king, "22:1-;7-");
        king.square(2, 1);
        for (int k = 1; k <= 9; k += 2) {
            king.door(k, k + 2, k % 7);
        }
        king.seed(4711);
        king.days(4);
        if (isKept) {
            king.keep();
        }
        king.days(3);
        for (int i = 0; i < tapes; i++) {
            king.feed(0x63352868, 0x3D33293B, 0x7328313D, 0x31290505, 0x0A0B0C0D);
        }
        return king;
    }

    private static void leavesAll(String name, int due, Call call) {
        leavesAll(name, due, true, 2, false, call);
    }

    private static void leavesAll(String name, int due, boolean isKept, int tapes, boolean emptiesTape, Call call) {
        for (int first = 0; first < QUESTIONS.size(); first += A_RUN) {
            BronzeKing king = busy(isKept, tapes);
            BronzeKing twin = twin(isKept, tapes, emptiesTape);
            Due.is(name, call.of(king), due);
            for (int i = first; i < QUESTIONS.size() && i < first + A_RUN; i++) {
                Due.is("question " + i + " behind " + name, QUESTIONS.get(i).of(king), QUESTIONS.get(i).of(twin));
            }
        }
        for (int i = 0; i < CHANGES.size(); i++) {
            BronzeKing king = busy(isKept, tapes);
            call.of(king);
            BronzeKing twin = twin(isKept, tapes, emptiesTape);
            Due.is("change " + i + " behind " + name, CHANGES.get(i).of(king), CHANGES.get(i).of(twin));
        }
    }

    private static BronzeKing twin(boolean isKept, int tapes, boolean emptiesTape) {
        BronzeKing twin = busy(isKept, tapes);
        if (emptiesTape) {
            Due.is("the twin's tape", twin.check(0, 0), -1);
        }
        return twin;
    }

    private static int bit(boolean answer) {
        return answer ? 1 : 0;
    }

    // ---- what is refused

    private static void places() {
        int[][] wrong = {{-1, 0}, {12, 0}, {0, -1}, {0, 8}, {-1, 1}, {12, 6}, {5, Integer.MAX_VALUE},
            {Integer.MIN_VALUE, 5}};
        for (int[] w : wrong) {
            String at = w[0] + ", " + w[1] + ")";
            leavesAll("square(" + at, 0, king -> bit(king.square(w[0], w[1])));
            leavesAll("door(9, " + at, 0, king -> bit(king.door(9, w[0], w[1])));
            leavesAll("placeIs(0, " + at, -1, king -> king.placeIs(w[0], w[1], 0));
            leavesAll("old(" + at, -1, king -> king.old(w[0], w[1]));
            leavesAll("barred(" + at, -1, king -> king.barred(w[0], w[1], 0));
        }
        for (int k : new int[] {0, 10, -1, 32, 33, Integer.MAX_VALUE, Integer.MIN_VALUE}) {
            leavesAll("door(" + k + ", 3, 3)", 0, king -> bit(king.door(k, 3, 3)));
        }
        for (int what : new int[] {-1, 5}) {
            leavesAll("placeIs(3, 3, " + what + ")", -1, king -> king.placeIs(3, 3, what));
        }
        leavesAll("barred(3, 3, 2)", -1, king -> king.barred(3, 3, 2));
    }

    /** "NONE: no such n, it has not so many (the tape stays)". */
    private static void texts() {
        for (int n : new int[] {Integer.MIN_VALUE, -1, 0, 41, 91, 111, 241, Integer.MAX_VALUE}) {
            leavesAll("law(" + n + ")", -1, king -> king.law(n));
            leavesAll("map(" + n + ")", -1, king -> king.map(n));
            leavesAll("notes(" + n + ")", -1, king -> king.notes(n));
        }
        leavesAll("law(241) of 260", -1, true, 13, false, king -> king.law(241));
        leavesAll("map(111) of 260", -1, true, 13, false, king -> king.map(111));
        leavesAll("notes(91) of 260", -1, true, 13, false, king -> king.notes(91));
        leavesAll("law(1) of none", -1, true, 0, false, king -> king.law(1));
        leavesAll("map(1) of none", -1, true, 0, false, king -> king.map(1));
        leavesAll("notes(1) of none", -1, true, 0, false, king -> king.notes(1));
        leavesAll("feed beyond 260", -1, true, 13, false, king -> king.feed(7, 7, 7, 7, 7));
    }

    /** A FAULT changes nothing either, but the tape is empty then. */
    private static void faults() {
        leavesAll("a FAULT of a law", -1006, true, 2, true, king -> king.law(6));
        leavesAll("a FAULT of a law", -1014, true, 2, true, king -> king.law(40));
        leavesAll("a FAULT of a map", -1000, true, 2, true, king -> king.map(5));
        leavesAll("a FAULT of notes", -1000, true, 2, true, king -> king.notes(5));
        leavesAll("a PLACE that is not", -3, true, 2, true, king -> king.lovers(2, 0));
    }

    private static void days() {
        for (int n : new int[] {Integer.MIN_VALUE, -1, 0, 31, Integer.MAX_VALUE}) {
            leavesAll("days(" + n + ")", -1, king -> king.days(n));
            leavesAll("tried(" + n + ", 0)", -1, king -> king.tried(n, 0));
        }
        for (int what : new int[] {-1, 4, 99, 196}) {
            leavesAll("tried(5, " + what + ")", -1, king -> king.tried(5, what));
        }
    }

    private static void hours() {
        leavesAll("likely(24, 0)", -1, king -> king.likely(24, 0));
        leavesAll("likely(-1, 0)", -1, king -> king.likely(-1, 0));
        leavesAll("likely(3, 2)", -1, king -> king.likely(3, 2));
        leavesAll("likely(22, 0), WATCHED", -2, king -> king.likely(22, 0));
        leavesAll("watch(0, 0)", -1, king -> king.watch(0, 0));
        leavesAll("watch(7, 0)", -1, king -> king.watch(7, 0));
        leavesAll("watch(1, 3)", -1, king -> king.watch(1, 3));
        leavesAll("sure(0)", -1, king -> king.sure(0));
        leavesAll("sure(101)", -1, king -> king.sure(101));
        leavesAll("walk(60)", -1, king -> king.walk(60));
        leavesAll("walk(104)", -1, king -> king.walk(104));
    }

    private static void ways() {
        leavesAll("far(-1)", -1, king -> king.far(-1));
        leavesAll("far(61)", -1, king -> king.far(61));
        leavesAll("calls(0, 100)", -1, king -> king.calls(0, 100));
        leavesAll("calls(61, 100)", -1, king -> king.calls(61, 100));
        leavesAll("calls(60, 9)", -1, king -> king.calls(60, 9));
        leavesAll("chase(96, 0)", -1, king -> king.chase(96, 0));
        leavesAll("chase(0, -1)", -1, king -> king.chase(0, -1));
        leavesAll("chase of a wall", -1, king -> king.chase(13, 6));
        leavesAll("streets(7)", -1, king -> king.streets(7));
        leavesAll("streets(-1)", -1, king -> king.streets(-1));
    }

    private static void loversAndBenches() {
        for (int n : new int[] {-1, 0, 1, 5, 41, Integer.MAX_VALUE}) {
            leavesAll("lovers(" + n + ", 0)", -1, king -> king.lovers(n, 0));
        }
        leavesAll("lovers(2, 2)", -1, king -> king.lovers(2, 2));
        leavesAll("lovers(2, -1)", -1, king -> king.lovers(2, -1));
        leavesAll("lovers(2, 0) of none", -1, true, 0, false, king -> king.lovers(2, 0));
        for (int n : new int[] {0, 3}) {
            leavesAll("benches(" + n + ", 0)", -1, king -> king.benches(n, 0));
        }
        leavesAll("benches(1, 3)", -1, king -> king.benches(1, 3));
        leavesAll("benches(2, -1)", -1, king -> king.benches(2, -1));
    }

    private static void tapes() {
        leavesAll("pigeons(2)", -1, king -> king.pigeons(2));
        leavesAll("pigeons(-1)", -1, king -> king.pigeons(-1));
        leavesAll("pigeons(0) of 20", -1, true, 1, false, king -> king.pigeons(0));
        leavesAll("pigeons(1) of none", -1, true, 0, false, king -> king.pigeons(1));
        leavesAll("check(-1, 1)", -2, king -> king.check(-1, 1));
        leavesAll("check(8, 1)", -2, king -> king.check(8, 1));
        leavesAll("check(0, -1)", -2, king -> king.check(0, -1));
        leavesAll("check(0, 13)", -2, king -> king.check(0, 13));
        leavesAll("check(0, 1) of none", -2, true, 0, false, king -> king.check(0, 1));
    }

    private static void undoAndSeed() {
        leavesAll("undo() of nothing", 0, false, 2, false, king -> bit(king.undo()));
        for (int x : new int[] {Integer.MIN_VALUE, -1, 65536, Integer.MAX_VALUE}) {
            leavesAll("seed(" + x + ")", 0, king -> bit(king.seed(x)));
        }
    }

    private static void numbers() {
        for (int what : BESIDE) {
            leavesAll("count(" + what + ")", -1, king -> king.count(what));
            leavesAll("walk(" + what + ")", -1, king -> king.walk(what));
            leavesAll("streets(" + what + ")", -1, king -> king.streets(what));
            leavesAll("pigeons(" + what + ")", -1, king -> king.pigeons(what));
            leavesAll("calls(5, " + what + ")", -1, king -> king.calls(5, what));
        }
        for (int what : new int[] {9, 10, 12, 20, 99, 124}) {
            leavesAll("count(" + what + ")", -1, king -> king.count(what));
        }
    }

    /** What only asks changes nothing, whatever it answers. */
    private static void askingChangesNothing() {
        for (int i = 0; i < QUESTIONS.size(); i += 37) {
            Call call = QUESTIONS.get(i);
            leavesAll("question " + i, call.of(busy(true, 2)), call);
        }
    }
}
