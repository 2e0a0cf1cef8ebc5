/** Promises 16 to 22 and 24: ways, calls, walls, the chase, lovers, benches and the streets. */
public final class WayPromisesTest {
    /** One street of 53 PLACES, down and up all the town, from 0, 0 to 10, 0. */
    private static final String SNAKE = ".#3.#3.#.#/.#.#.#.#.#.#/.#.#.#.#.#.#/.#.#.#.#.#.#/.#.#.#.#.#.#/"
        + ".#.#.#.#.#.#/.#.#.#.#.#.#/3.#3.#3.#";
    private static final String FIVE_WALLS = "/9#3#/9#3#/9#3#/9#3#/9#3#";
    private static final String RING = "3.9#/.#.9#/3.9#" + FIVE_WALLS;
    private static final String CROSS = "#.#9#/3.9#/#.#9#" + FIVE_WALLS;

    private WayPromisesTest() {
    }

    public static void main(String[] args) {
        far();
        calls();
        callsOfLikeOnes();
        callsOfDoorsBeside();
        wrongCalls();
        old();
        barred();
        chase();
        lovers();
        wrongLovers();
        benches();
        streets();
        cuts();
        Due.end();
    }

    private static BronzeKing snake() {
        return Due.king(SNAKE, "");
    }

    private static void far() {
        BronzeKing king = snake();
        Due.is("the snake", king.placeIs(10, 0, 2), 52);
        int[][] due = {{0, 1}, {1, 2}, {29, 30}, {30, 31}, {31, 31}, {60, 31}};
        for (int[] d : due) {
            Due.is("far(" + d[0] + ")", king.far(d[0]), d[1]);
        }
        for (int n : new int[] {-1, 61, Integer.MAX_VALUE, Integer.MIN_VALUE}) {
            Due.is("far(" + n + ")", king.far(n), -1);
        }
        BronzeKing middle = new BronzeKing();
        middle.square(5, 4);
        Due.is("far(2) in the open", middle.far(2), 13);
    }

    private static void row(BronzeKing king, int minutes, int steps, int... doors) {
        Due.is("calls(" + minutes + ", 100)", king.calls(minutes, 100), doors.length);
        Due.is("calls(" + minutes + ", 101)", king.calls(minutes, 101), steps);
        for (int i = 0; i < 9; i++) {
            int want = i < doors.length ? doors[i] : -4;
            Due.is("calls(" + minutes + ", " + i + ")", king.calls(minutes, i), want);
        }
    }

    private static void calls() {
        BronzeKing king = snake();
        row(king, 60, 0);
        king.door(4, 0, 2);
        king.door(7, 2, 7);
        king.door(2, 10, 7);
        row(king, 60, 18, 4, 7);
        row(king, 18, 18, 4, 7);
        row(king, 17, 4, 4);
        row(king, 4, 4, 4);
        row(king, 3, 0);
        king.door(2, 6, 4);
        Due.is("30 STEPS off", king.placeIs(6, 4, 2), 30);
        row(king, 60, 60, 2, 7, 4);
        king.door(2, 6, 3);
        row(king, 60, 18, 4, 7);
        Due.map(king, ".#/#");
        row(king, 60, 0);
    }

    private static void callsOfLikeOnes() {
        BronzeKing king = new BronzeKing();
        king.door(5, 2, 0);
        king.door(3, 0, 2);
        row(king, 4, 4, 3);
        row(king, 7, 4, 3);
        row(king, 8, 8, 3, 5);
        king.door(3, 0, 3);
        row(king, 7, 4, 5);
        king.door(9, 3, 0);
        row(king, 60, 12, 3, 5, 9);
        row(king, 11, 6, 5, 9);
        for (int k = 1; k <= 9; k++) {
            king.door(k, 9 - k, 0);
        }
        row(king, 60, 16, 1, 2, 3, 4, 5, 6, 7, 8, 9);
        row(king, 15, 14, 2, 3, 4, 5, 6, 7, 8, 9);
    }

    private static void callsOfDoorsBeside() {
        BronzeKing king = new BronzeKing();
        king.door(6, 0, 0);
        row(king, 1, 0, 6);
        king.door(8, 1, 0);
        king.door(1, 1, 0);
        row(king, 1, 0, 6);
        row(king, 2, 2, 1, 8, 6);
    }

    private static void wrongCalls() {
        BronzeKing king = new BronzeKing();
        int[][] wrong = {{0, 100}, {61, 100}, {-1, 0}, {1, -1}, {1, 9}, {1, 99}, {1, 102}, {0, 0}};
        for (int[] w : wrong) {
            Due.is("calls(" + w[0] + ", " + w[1] + ")", king.calls(w[0], w[1]), -1);
        }
    }

    private static void old() {
        BronzeKing king = Due.king(".+.9#/3.9#/9#3#", "");
        Due.is("there", king.old(0, 0), 0);
        Due.is("over a NEW wall", king.old(2, 0), 2);
        Due.is("a NEW wall itself", king.old(1, 0), 1);
        Due.is("an OLD wall", king.old(3, 0), -2);
        Due.is("behind OLD walls", king.old(0, 7), -2);
        int[][] wrong = {{-1, 0}, {12, 0}, {0, -1}, {0, 8}};
        for (int[] w : wrong) {
            Due.is("old of no PLACE", king.old(w[0], w[1]), -1);
            Due.is("barred of no PLACE", king.barred(w[0], w[1], 0), -1);
        }
    }

    private static void barred() {
        BronzeKing king = Due.king(".+.9#/3.9#/9#3#", "");
        Due.is("there is a way", king.barred(2, 0, 0), 0);
        Due.is("not as short a one", king.barred(2, 0, 1), 1);
        Due.is("the wall itself", king.barred(1, 0, 0), 1);
        Due.is("the wall itself", king.barred(1, 0, 1), 1);
        Due.is("THE SQUARE", king.barred(0, 0, 1), 0);
        Due.is("an OLD wall", king.barred(3, 0, 0), -2);
        Due.is("behind OLD walls", king.barred(0, 7, 1), -2);
        Due.is("barred(0, 0, 2)", king.barred(0, 0, 2), -1);
        Due.is("barred(0, 0, -1)", king.barred(0, 0, -1), -1);
        BronzeKing walls = Due.king(".3+.7#/5+7#/.+3.7#" + FIVE_WALLS, "");
        Due.is("through three", walls.barred(4, 0, 1), 3);
        Due.is("around by three", walls.barred(4, 0, 0), 3);
        Due.is("around by two", walls.barred(2, 2, 0), 2);
        Due.is("as short by two", walls.barred(2, 2, 1), 2);
        walls.square(1, 0);
        Due.is("THE SQUARE is open", walls.barred(1, 0, 0), 0);
        Due.is("from there", walls.barred(4, 0, 1), 2);
        Due.is("back to the open PLACE", walls.barred(0, 0, 0), 0);
    }

    private static void chase() {
        BronzeKing street = snake();
        Due.is("to the end of the street", street.chase(0, 10), 52);
        Due.is("beside", street.chase(0, 12), 1);
        Due.is("he flees to the end", street.chase(0, 24), 52);
        Due.is("he flees the other way", street.chase(10, 0), 52);
        Due.is("a short end", street.chase(24, 0), 2);
        Due.is("there", street.chase(24, 24), 0);
        BronzeKing ring = Due.king(RING, "");
        Due.is("around and around", ring.chase(0, 26), -2);
        Due.is("two STEPS off", ring.chase(0, 2), -2);
        Due.is("beside", ring.chase(0, 1), 1);
        BronzeKing cross = Due.king(CROSS, "");
        cross.square(1, 1);
        Due.is("end to end", cross.chase(12, 14), 2);
        Due.is("from the middle", cross.chase(13, 14), 1);
        BronzeKing islands = Due.king(".#./#", "");
        islands.square(2, 0);
        Due.is("no way", islands.chase(0, 2), -2);
        Due.is("there on an island", islands.chase(0, 0), 0);
        int[][] wrong = {{-1, 0}, {96, 0}, {0, -1}, {0, 96}, {1, 0}, {0, 1}, {1, 1}, {Integer.MAX_VALUE, 0}};
        for (int[] w : wrong) {
            Due.is("chase(" + w[0] + ", " + w[1] + ")", islands.chase(w[0], w[1]), -1);
        }
    }

    private static void lovers(BronzeKing king, int place, int steps, int... from) {
        byte[] bytes = new byte[from.length];
        for (int i = 0; i < from.length; i++) {
            bytes[i] = (byte) from[i];
        }
        Due.feed(king, bytes);
        Due.is("lovers(" + from.length + ", 0)", king.lovers(from.length, 0), place);
        Due.is("the tape is empty", king.count(5), 0);
        Due.feed(king, bytes);
        Due.is("lovers(" + from.length + ", 1)", king.lovers(from.length, 1), steps);
        Due.is("the tape is empty", king.count(5), 0);
    }

    private static void lovers() {
        BronzeKing king = new BronzeKing();
        lovers(king, 1, 2, 0, 2);
        lovers(king, 1, 3, 0, 3);
        lovers(king, 1, 2, 0, 13);
        lovers(king, 1, 2, 13, 0);
        lovers(king, 95, 0, 95, 95);
        lovers(king, 2, 4, 0, 2, 4);
        lovers(king, 0, 4, 0, 1, 12, 13);
        lovers(king, 5, 18, 0, 11, 11, 4);
        BronzeKing walls = Due.king(".#./.#./3./9#3#", "");
        lovers(walls, 25, 6, 0, 2);
        lovers(walls, -2, -2, 0, 48);
        lovers(walls, -3, -3, 0, 1);
        lovers(walls, -3, -3, 96, 0);
        lovers(walls, -3, -3, 0, 255);
        lovers(walls, -3, -3, 0, 60, 2, 37);
    }

    private static void wrongLovers() {
        BronzeKing king = new BronzeKing();
        Due.is("nothing on the tape", king.lovers(2, 0), -1);
        king.feed(0, 0, 0, 0, 0);
        int[][] wrong = {{1, 0}, {5, 0}, {0, 0}, {-1, 0}, {2, -1}, {2, 2}};
        for (int[] w : wrong) {
            Due.is("lovers(" + w[0] + ", " + w[1] + ")", king.lovers(w[0], w[1]), -1);
            Due.is("the tape stays", king.count(5), 20);
        }
    }

    private static void benches(BronzeKing king, int n, int first, int second, int near) {
        Due.is("benches(" + n + ", 0)", king.benches(n, 0), first);
        Due.is("benches(" + n + ", 1)", king.benches(n, 1), second);
        Due.is("benches(" + n + ", 2)", king.benches(n, 2), near);
    }

    private static void benches() {
        BronzeKing king = new BronzeKing();
        benches(king, 1, -2, -2, -2);
        benches(king, 2, -2, -2, -2);
        Due.law(king, "c1(1=1);e1(y=0&x>b-1);s(x=8|m>50)");
        king.days(1);
        Due.is("nine PLACES with WEAR", king.count(7), 16);
        benches(king, 1, 2, -2, 5);
        benches(king, 2, 1, 6, 9);
        king.square(0, 0);
        Due.map(king, "..+");
        benches(king, 1, 5, -2, 5);
        benches(king, 2, 0, 5, 7);
        Due.map(king, "3+");
        king.square(1, 0);
        benches(king, 1, 5, -2, 5);
        Due.map(king, "9#3#/9#3#/9#3#" + FIVE_WALLS);
        benches(king, 1, 1, -2, 1);
        benches(king, 2, -2, -2, -2);
        king.square(9, 7);
        benches(king, 1, -2, -2, -2);
        int[][] wrong = {{0, 0}, {3, 0}, {1, -1}, {1, 3}, {-1, 0}, {2, 3}};
        for (int[] w : wrong) {
            Due.is("benches(" + w[0] + ", " + w[1] + ")", king.benches(w[0], w[1]), -1);
        }
    }

    private static void streets(BronzeKing king, int... due) {
        for (int what = 0; what < due.length; what++) {
            Due.is("streets(" + what + ")", king.streets(what), due[what]);
        }
    }

    private static void streets() {
        streets(new BronzeKing(), 1, 0, 77, 60, 96, 0, -2);
        streets(Due.king(RING, ""), 1, 0, 1, 0, 8, 0, -2);
        BronzeKing cross = Due.king(CROSS, "");
        streets(cross, 1, 2, 1, 1, 6, 1, 13);
        cross.square(1, 0);
        streets(cross, 1, 4, 0, 1, 5, 1, 13);
        cross.square(1, 1);
        streets(cross, 1, 4, 0, 1, 5, 0, -2);
        streets(Due.king(".+.+.#./7#", ""), 4, 4, 63, 47, 86, 0, -2);
        BronzeKing king = new BronzeKing();
        for (int what : new int[] {-1, 7, Integer.MAX_VALUE, Integer.MIN_VALUE}) {
            Due.is("streets(" + what + ")", king.streets(what), -1);
        }
    }

    private static void cuts() {
        BronzeKing street = Due.king("5.7#/9#3#/5.7#" + FIVE_WALLS, "");
        street.square(2, 0);
        streets(street, 2, 4, 0, 0, 10, 2, 1);
        street.square(4, 0);
        streets(street, 2, 4, 0, 0, 10, 3, 1);
        street.square(0, 2);
        streets(street, 2, 4, 0, 0, 10, 3, 25);
        streets(snake(), 1, 2, 0, 0, 53, 51, 2);
        BronzeKing first = Due.king("2.9##/.#9##/9#3#" + FIVE_WALLS, "");
        first.square(1, 0);
        streets(first, 1, 2, 0, 0, 3, 1, 0);
    }
}
