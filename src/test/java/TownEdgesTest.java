import java.util.Arrays;

/** Boundary cases of LOVERS, BENCHES, PIGEONS and THE STREETS: promises 21 to 24. */
public final class TownEdgesTest {
    private TownEdgesTest() {
    }

    public static void main(String[] args) {
        loversNumbers();
        loversOnTheTape();
        loversOfNoPlace();
        loversNowhere();
        loversOfLikeOnes();
        loversTogether();
        loversFirstBytesAlone();
        benchesNumbers();
        benchesTwoStepsOff();
        benchesTwo();
        benchesTooFewOpen();
        benchesOfNoWear();
        benchesBesideEachOther();
        benchesOnWalls();
        benchesAfterUndo();
        pigeonsNumbers();
        pigeonsOverMidnight();
        pigeonsOfLikeOnes();
        pigeonsExtremes();
        streetsNumbers();
        streetsOfOnePlace();
        streetsAsManyAsCanBe();
        deadEnds();
        crossings();
        rings();
        cuts();
        Due.end();
    }

    private static BronzeKing fed(BronzeKing king, int... bytes) {
        byte[] tape = new byte[bytes.length];
        for (int i = 0; i < bytes.length; i++) {
            tape[i] = (byte) bytes[i];
        }
        Due.feed(king, tape);
        return king;
    }

    private static BronzeKing fedOpen(int... bytes) {
        return fed(new BronzeKing(), bytes);
    }

    /** "n 2 to 4 ..; what 0 the PLACE, 1 STEPS together; NONE: no such ones, it has not so many (the tape stays)". */
    private static void loversNumbers() {
        Edges.range("lovers(n, 0)", 2, 4, -1, n -> fedOpen(0, 1, 2, 3, 4).lovers(n, 0));
        Edges.range("lovers(n, 1)", 2, 4, -1, n -> fedOpen(0, 1, 2, 3, 4).lovers(n, 1));
        Edges.range("lovers(3, what)", 0, 1, -1, what -> fedOpen(0, 1, 2, 3, 4).lovers(3, what));
        Edges.range("lovers(3, what) of no PLACE", 0, 1, -1, what -> fedOpen(0, 255, 2).lovers(3, what));
        Edges.range("lovers(n, 0) of no PLACE", 2, 4, -1, n -> fedOpen(96, 96, 96, 96, 96).lovers(n, 0));
        Edges.range("lovers(n, 0) of no tape", 1, 0, -1, n -> new BronzeKing().lovers(n, 0));
    }

    /** "(.. empty then)"; "NONE: .. (the tape stays)". */
    private static void loversOnTheTape() {
        int[][] calls = {{1, 0}, {5, 0}, {0, 0}, {2, 2}, {2, -1}, {2, 0}, {4, 1}, {3, 0}};
        for (int i = 0; i < calls.length; i++) {
            BronzeKing king = fedOpen(0, 1, 2, 3);
            king.lovers(calls[i][0], calls[i][1]);
            Due.is("the tape behind lovers(" + calls[i][0] + ", " + calls[i][1] + ")", king.count(5), i < 5 ? 20 : 0);
        }
        BronzeKing bad = fedOpen(96, 0);
        Due.is("-3", bad.lovers(2, 0), -3);
        Due.is("the tape is empty", bad.count(5), 0);
        BronzeKing nowhere = fed(Edges.kingAt(0, Edges.only('#', 0, 2), ""), 0, 2);
        Due.is("-2", nowhere.lovers(2, 0), -2);
        Due.is("the tape is empty", nowhere.count(5), 0);
    }

    /** "-3: a PLACE that is not, or is not open". */
    private static void loversOfNoPlace() {
        for (int place = 0; place < 256; place++) {
            for (int at = 0; at < 4; at++) {
                int[] bytes = {5, 5, 5, 5};
                bytes[at] = place;
                Due.is("lover " + place, fedOpen(bytes).lovers(4, 0) == -3, place > 95);
                Due.is("lover " + place, fedOpen(bytes).lovers(4, 1) == -3, place > 95);
            }
        }
        BronzeKing walls = Edges.kingAt(3, ".#+#", "");
        Due.is("an OLD wall", fed(walls, 0, 1).lovers(2, 0), -3);
        Due.is("a NEW wall", fed(walls, 2, 0).lovers(2, 1), -3);
        Due.is("THE SQUARE on a wall", fed(walls, 3, 4).lovers(2, 1), 1);
        BronzeKing both = Edges.kingAt(0, Edges.only('#', 0, 2), "");
        Due.is("-3 ahead of -2", fed(both, 0, 2, 1).lovers(3, 0), -3);
        Due.is("-3 ahead of -2", fed(both, 0, 2, 200).lovers(3, 1), -3);
    }

    /** "-2: nowhere". */
    private static void loversNowhere() {
        BronzeKing king = Edges.kingAt(0, Edges.only('#', 0, 1, 11, 12, 95), "");
        int[][] lovers = {{0, 11}, {11, 12}, {0, 1, 95}, {0, 0, 1, 11}};
        for (int[] who : lovers) {
            Due.is("the PLACE", fed(king, who).lovers(who.length, 0), -2);
            Due.is("together", fed(king, who).lovers(who.length, 1), -2);
        }
        Due.is("alone on an island", fed(king, 95, 95).lovers(2, 0), 95);
        Due.is("no STEPS", fed(king, 95, 95).lovers(2, 1), 0);
    }

    private static void meet(BronzeKing king, int place, int steps, int... who) {
        Due.is("they meet", fed(king, who).lovers(who.length, 0), place);
        Due.is("STEPS together", fed(king, who).lovers(who.length, 1), steps);
    }

    /** "of like ones at which the farthest has the fewest; of these the lowest Y, then X". */
    private static void loversOfLikeOnes() {
        BronzeKing king = new BronzeKing();
        meet(king, 2, 4, 0, 4);
        meet(king, 2, 5, 0, 5);
        meet(king, 2, 5, 5, 0);
        meet(king, 1, 2, 0, 13);
        meet(king, 0, 2, 12, 1);
    }

    private static void loversTogether() {
        BronzeKing king = new BronzeKing();
        meet(king, 0, 0, 0, 0, 0, 0);
        meet(king, 95, 0, 95, 95, 95);
        meet(king, 41, 36, 0, 11, 84, 95);
        meet(king, 9, 18, 0, 95);
        meet(king, 0, 18, 0, 0, 95);
        meet(king, 95, 18, 0, 95, 95);
    }

    private static void loversFirstBytesAlone() {
        Due.is("two of four", fedOpen(0, 2, 96, 255).lovers(2, 0), 1);
        Due.is("three of four", fedOpen(0, 2, 96, 255).lovers(3, 0), -3);
        Due.is("three of four", fedOpen(0, 2, 2, 255).lovers(3, 0), 2);
    }

    /** "BENCHES (1 or 2), what 0 .., 1 .., 2 ..; NONE: no such ones". */
    private static void benchesNumbers() {
        BronzeKing worn = street(0, 3);
        Edges.range("benches(n, 0)", 1, 2, -1, n -> worn.benches(n, 0));
        Edges.range("benches(1, what)", 0, 2, -1, what -> worn.benches(1, what));
        Edges.range("benches(2, what)", 0, 2, -1, what -> worn.benches(2, what));
        BronzeKing fresh = new BronzeKing();
        Edges.range("benches(n, 0) of no WEAR", 1, 2, -1, n -> fresh.benches(n, 0));
        Edges.range("benches(2, what) of no WEAR", 0, 2, -1, what -> fresh.benches(2, what));
    }

    /** A street along a row, THE SQUARE at its left end, with WEAR on so many PLACES from there on. */
    private static BronzeKing street(int row, int worn) {
        int[] places = new int[12];
        for (int x = 0; x < 12; x++) {
            places[x] = 12 * row + x;
        }
        BronzeKing king = Edges.kingAt(12 * row, Edges.only('#', places), "c1(1=1);e1(1=1);s(m>" + (worn - 2) + ")");
        Due.is("a DAY", king.days(1), 2 * (worn - 1));
        return king;
    }

    private static void benches(BronzeKing king, int n, int first, int second, int near) {
        Due.is("benches(" + n + ", 0)", king.benches(n, 0), first);
        Due.is("benches(" + n + ", 1)", king.benches(n, 1), second);
        Due.is("benches(" + n + ", 2)", king.benches(n, 2), near);
    }

    /** "no more than 2 STEPS from one of them; of like ones the lowest". */
    private static void benchesTwoStepsOff() {
        int[] first = {0, 0, 1, 2, 2, 2, 2, 2, 2, 2, 2};
        for (int row = 0; row < 8; row++) {
            for (int worn = 2; worn <= 12; worn++) {
                benches(street(row, worn), 1, 12 * row + first[worn - 2], -2, Math.min(worn, 5));
            }
        }
    }

    /** "(by Y, then X; the lower one first)". */
    private static void benchesTwo() {
        int[] first = {0, 0, 0, 0, 0, 0, 0, 1, 2, 2, 2};
        int[] second = {1, 1, 1, 2, 3, 4, 5, 6, 7, 7, 7};
        for (int row = 0; row < 8; row++) {
            for (int worn = 2; worn <= 12; worn++) {
                int near = Math.min(worn, 10);
                benches(street(row, worn), 2, 12 * row + first[worn - 2], 12 * row + second[worn - 2], near);
            }
        }
        BronzeKing open = street(7, 6);
        Due.map(open, ".");
        benches(open, 1, 86, -2, 5);
        benches(open, 2, 60, 87, 6);
    }

    /** "-2: .. too few are open". */
    private static void benchesTooFewOpen() {
        BronzeKing king = street(0, 3);
        Due.map(king, Edges.only('#'));
        benches(king, 1, 0, -2, 1);
        benches(king, 2, -2, -2, -2);
        Due.map(king, Edges.only('+', 95));
        benches(king, 1, 0, -2, 1);
        benches(king, 2, 0, 95, 1);
    }

    /** "-2: wherever they stand no PLACE with WEAR is so near". */
    private static void benchesOfNoWear() {
        benches(new BronzeKing(), 1, -2, -2, -2);
        benches(new BronzeKing(), 2, -2, -2, -2);
        BronzeKing king = street(0, 3);
        king.square(11, 7);
        Due.map(king, "3#");
        benches(king, 1, -2, -2, -2);
        benches(king, 2, -2, -2, -2);
        Due.map(king, "2#.");
        benches(king, 1, 2, -2, 1);
        benches(king, 2, 2, 3, 1);
    }

    private static void benchesBesideEachOther() {
        BronzeKing two = Edges.kingAt(94, Edges.only('#', 94, 95), "c1(1=1);e1(1=1)");
        two.days(1);
        benches(two, 1, 94, -2, 2);
        benches(two, 2, 94, 95, 2);
        BronzeKing first = Edges.kingAt(0, Edges.only('#', 0, 1, 2), "c1(1=1);e1(1=1)");
        first.days(1);
        benches(first, 1, 0, -2, 3);
        benches(first, 2, 0, 1, 3);
    }

    /** "on open PLACES", and a PLACE that is a wall has no STEPS to it. */
    private static void benchesOnWalls() {
        BronzeKing king = street(0, 5);
        benches(king, 1, 2, -2, 5);
        Due.map(king, "2.+");
        benches(king, 1, 0, -2, 2);
        Due.map(king, "..+../3#");
        benches(king, 1, 0, -2, 2);
        benches(king, 2, 0, 3, 4);
    }

    private static void benchesAfterUndo() {
        BronzeKing king = Edges.kingAt(0, "", "c1(1=1);e1(1=1)");
        king.keep();
        king.days(1);
        Due.is("there is WEAR", king.benches(1, 2) > 0, true);
        king.undo();
        benches(king, 1, -2, -2, -2);
        benches(king, 2, -2, -2, -2);
    }

    private static BronzeKing flock(int... bytes) {
        int[] all = new int[24];
        System.arraycopy(bytes, 0, all, 0, bytes.length);
        return fed(new BronzeKing(), all);
    }

    /** "by the first 24 bytes of the tape (empty then), what 0 .., 1 ..; NONE: .. (the tape stays)". */
    private static void pigeonsNumbers() {
        Edges.range("pigeons(what)", 0, 1, -1, what -> flock(9).pigeons(what));
        for (int what : new int[] {-1, 0, 1, 2}) {
            for (int times = 0; times <= 13; times++) {
                BronzeKing king = new BronzeKing();
                for (int i = 0; i < times; i++) {
                    king.feed(0, 0, 0, 0, 0);
                }
                boolean isTaken = what >= 0 && what <= 1 && times >= 2;
                Due.is("pigeons of " + 20 * times, king.pigeons(what), isTaken ? 0 : -1);
                Due.is("the tape", king.count(5), isTaken ? 0 : 20 * times);
            }
        }
        int[] more = new int[40];
        more[23] = 3;
        more[24] = 255;
        Due.is("the first 24 alone", fedOpen(more).pigeons(0), 23);
        Due.is("the first 24 alone", fedOpen(more).pigeons(1), 6);
    }

    /** "twice it less both neighbours', over midnight". */
    private static void pigeonsOverMidnight() {
        for (int hour = 0; hour < 24; hour++) {
            int[] high = new int[24];
            int[] low = new int[24];
            int[] between = new int[24];
            Arrays.fill(low, 9);
            high[hour] = 9;
            low[hour] = 0;
            between[(hour + 1) % 24] = 40;
            between[(hour + 23) % 24] = 40;
            between[(hour + 2) % 24] = 40;
            between[(hour + 22) % 24] = 40;
            Due.is("a high one", flock(high).pigeons(0), hour);
            Due.is("a high one", flock(high).pigeons(1), 18);
            Due.is("a low one", flock(low).pigeons(0), hour);
            Due.is("a low one", flock(low).pigeons(1), 18);
            Due.is("between two high ones", flock(between).pigeons(0), hour);
            Due.is("between two high ones", flock(between).pigeons(1), 80);
        }
    }

    /** "of like ones the first". */
    private static void pigeonsOfLikeOnes() {
        for (int first = 0; first < 22; first++) {
            for (int second = first + 2; second < 24 && second - first < 22; second++) {
                int[] bytes = new int[24];
                bytes[first] = 7;
                bytes[second] = 7;
                Due.is("of two the first", flock(bytes).pigeons(0), first);
            }
        }
        for (int value : new int[] {0, 1, 128, 255}) {
            int[] bytes = new int[24];
            Arrays.fill(bytes, value);
            Due.is("all alike: the first", flock(bytes).pigeons(0), 0);
            Due.is("all alike: nothing", flock(bytes).pigeons(1), 0);
        }
    }

    /** "24 numbers (0 to 255)". */
    private static void pigeonsExtremes() {
        for (int value = 0; value < 256; value++) {
            Due.is("by " + value, flock(0, 0, value).pigeons(1), 2 * value);
        }
        Due.is("the most", flock(0, 255).pigeons(1), 510);
        Due.is("the most below", flock(255, 0, 255).pigeons(1), 510);
        Due.is("the first of both", flock(255, 0, 255).pigeons(0), 0);
    }

    /** "THE STREETS, what 0 .. 6; NONE: no such what". */
    private static void streetsNumbers() {
        BronzeKing king = new BronzeKing();
        for (int what = -5; what <= 12; what++) {
            boolean isTaken = what >= 0 && what <= 6;
            Due.is("streets(" + what + ") is taken", king.streets(what) != -1, isTaken);
        }
        Edges.range("streets(what)", 0, 6, -1, king::streets);
    }

    private static void streets(BronzeKing king, int... due) {
        // From the last on, so that none leans on another one's having been asked.
        for (int what = due.length - 1; what >= 0; what--) {
            Due.is("streets(" + what + ")", king.streets(what), due[what]);
        }
    }

    private static void streetsOfOnePlace() {
        for (int square : new int[] {0, 11, 40, 84, 95}) {
            streets(Edges.kingAt(square, Edges.only('#'), ""), 1, 1, 0, 0, 1, 0, -2);
            streets(Edges.kingAt(square, Edges.only('+'), ""), 1, 1, 0, 0, 1, 0, -2);
            streets(Edges.kingAt(square, "", ""), 1, 0, 77, 60, 96, 0, -2);
        }
    }

    /** As many ISLANDS as there can be. */
    private static void streetsAsManyAsCanBe() {
        String board = Edges.rows(4, ".#.#.#.#.#.#/#.#.#.#.#.#.", "/");
        streets(Edges.kingAt(0, board, ""), 48, 48, 0, 0, 48, 0, -2);
        streets(Edges.kingAt(1, board, ""), 46, 48, 0, 0, 49, 0, -2);
    }

    /** "DEAD ENDS (open PLACES with one open neighbour at most)". */
    private static void deadEnds() {
        streets(Edges.kingAt(40, Edges.only('#', 40), ""), 1, 1, 0, 0, 1, 0, -2);
        streets(Edges.kingAt(40, Edges.only('#', 40, 41), ""), 1, 2, 0, 0, 2, 0, -2);
        streets(Edges.kingAt(40, Edges.only('#', 40, 41, 42), ""), 1, 2, 0, 0, 3, 1, 41);
        streets(Edges.kingAt(41, Edges.only('#', 40, 41, 42), ""), 1, 2, 0, 0, 3, 0, -2);
        streets(Edges.kingAt(40, Edges.only('#', 40, 41, 52, 53), ""), 1, 0, 1, 0, 4, 0, -2);
    }

    /** "CROSSINGS (open PLACES with four open neighbours)". */
    private static void crossings() {
        streets(Edges.kingAt(40, Edges.only('#', 40, 28, 41, 52), ""), 1, 3, 0, 0, 4, 0, -2);
        streets(Edges.kingAt(40, Edges.only('#', 40, 28, 41, 52, 39), ""), 1, 4, 0, 1, 5, 0, -2);
        streets(Edges.kingAt(28, Edges.only('#', 40, 28, 41, 52, 39), ""), 1, 4, 0, 1, 5, 1, 40);
        streets(Edges.kingAt(40, Edges.only('+', 36, 24, 37, 48, 35), ""), 3, 5, 0, 0, 6, 0, -2);
    }

    /** "RINGS (two neighbours each, added up, less PLACES, and ISLANDS)". */
    private static void rings() {
        streets(Edges.kingAt(0, Edges.only('#', 0, 1, 2, 12, 13, 14, 24, 25, 26), ""), 1, 0, 4, 1, 9, 0, -2);
        streets(Edges.kingAt(0, Edges.only('#', 0, 1, 2, 12, 14, 24, 25, 26), ""), 1, 0, 1, 0, 8, 0, -2);
        streets(Edges.kingAt(0, Edges.only('#', 0, 1, 12, 13, 82, 83, 94, 95), ""), 2, 0, 2, 0, 8, 0, -2);
    }

    /** "CUT: open PLACES, other than THE SQUARE, without which some open one could no longer be come to". */
    private static void cuts() {
        int[] street = {84, 85, 86, 87, 88};
        streets(Edges.kingAt(84, Edges.only('#', street), ""), 1, 2, 0, 0, 5, 3, 85);
        streets(Edges.kingAt(86, Edges.only('#', street), ""), 1, 2, 0, 0, 5, 2, 85);
        streets(Edges.kingAt(88, Edges.only('#', street), ""), 1, 2, 0, 0, 5, 3, 85);
        streets(Edges.kingAt(0, Edges.only('#', street), ""), 2, 3, 0, 0, 6, 0, -2);
        int[] twoRings = {0, 1, 12, 13, 14, 25, 26};
        streets(Edges.kingAt(0, Edges.only('#', twoRings), ""), 1, 0, 2, 1, 7, 1, 13);
        streets(Edges.kingAt(13, Edges.only('#', twoRings), ""), 1, 0, 2, 1, 7, 0, -2);
        streets(Edges.kingAt(1, Edges.only('#', 0, 1, 12), ""), 1, 2, 0, 0, 3, 1, 0);
        streets(Edges.kingAt(83, Edges.only('#', 83, 95, 94), ""), 1, 2, 0, 0, 3, 1, 95);
    }
}
