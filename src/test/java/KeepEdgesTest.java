/** Boundary cases of what is KEPT and UNDONE, of CHECK and of what is counted: promises 26 to 29. */
public final class KeepEdgesTest {
    private static final String TWO_PLACES = Edges.only('#', 0, 1);

    private KeepEdgesTest() {
    }

    public static void main(String[] args) {
        undoOfNothing();
        keepOfNothing();
        keptLast();
        undoneAgainAndAgain();
        allOfTheWalk();
        walkOfADayHeStayedAway();
        drawsComeAgain();
        keptOnTheLastDay();
        keptBeforeTheMost();
        checkNumbers();
        checkTheTape();
        checkTheFirstThatIsNotSo();
        checkModulo256();
        checkEachRow();
        countNumbers();
        countOfDoors();
        countOfWeights();
        countOfWear();
        fiveHundredCalls();
        Due.end();
    }

    /** "false: none was KEPT". */
    private static void undoOfNothing() {
        BronzeKing king = Due.king("", "c1(1=1);e1(1=1)");
        Due.is("undo()", king.undo(), false);
        king.days(3);
        king.seed(9);
        Due.is("undo()", king.undo(), false);
        Due.is("THE DAY", king.count(0), 3);
        Due.is("X", king.count(6), 9);
        Due.is("WEAR", king.count(7), 180);
        Due.is("THE WALK", king.walk(101), 60);
    }

    private static void keepOfNothing() {
        BronzeKing king = new BronzeKing();
        Due.is("keep()", king.keep(), 0);
        Due.law(king, "c1(1=1);e1(1=1)");
        king.days(30);
        Due.is("undo()", king.undo(), true);
        Due.is("THE DAY", king.count(0), 0);
        Due.is("X", king.count(6), 1);
        Due.is("WEAR", king.count(7), 0);
        Due.is("nothing is worn", king.worn(), -2);
        for (int what : new int[] {0, 59, 100, 101, 102, 103}) {
            Due.is("no WALK", king.walk(what), -2);
        }
        Due.is("THE LAW is not KEPT", king.count(4), 2);
    }

    /** "KEPT: THE DAY"; "as they were KEPT last". */
    private static void keptLast() {
        BronzeKing king = Due.king("", "c1(1=1);e1(1=1)");
        for (int day = 0; day < 10; day++) {
            Due.is("keep()", king.keep(), day);
            Due.is("keep() again", king.keep(), day);
            king.days(1);
        }
        Due.is("undo()", king.undo(), true);
        Due.is("the last one", king.count(0), 9);
        Due.is("WEAR", king.count(7), 540);
    }

    private static void undoneAgainAndAgain() {
        BronzeKing king = Due.king("", "c1(1=1);e1(1=1)");
        king.days(2);
        king.keep();
        for (int i = 0; i < 4; i++) {
            king.days(i + 1);
            Due.is("undo()", king.undo(), true);
            Due.is("undo() at once again", king.undo(), true);
            Due.is("THE DAY", king.count(0), 2);
            Due.is("WEAR", king.count(7), 120);
        }
    }

    private static String walk(BronzeKing king) {
        StringBuilder s = new StringBuilder();
        for (int what = 0; what < 104; what++) {
            s.append(king.walk(what)).append(' ');
        }
        return s.toString();
    }

    /** On THE DAYS with d 0 he goes about, with d 1 five STEPS down, with d 2 he stands. */
    private static BronzeKing threeWalks() {
        BronzeKing king = Due.king("", "c1(h=4+d);e1(d=0);eb(d=1&x=0);s(d=1&m>4|d=2)");
        king.door(1, 5, 0);
        king.door(2, 0, 3);
        return king;
    }

    /** "KEPT: WEAR, THE DAY, THE WALK, X": every MINUTE, the HOUR, STEPS, DOORS and how far. */
    private static void allOfTheWalk() {
        int[][] due = {{4, 60, 2, 12}, {5, 10, 4, 5}, {6, 0, 0, 0}};
        for (int keptOn = 0; keptOn < 3; keptOn++) {
            for (int undoneOn = 0; undoneOn < 3; undoneOn++) {
                BronzeKing king = threeWalks();
                king.days(keptOn + 1);
                String before = walk(king);
                king.keep();
                king.days(7 + undoneOn - keptOn);
                Due.is("the same WALK", walk(king).equals(before), keptOn == undoneOn);
                king.undo();
                Due.is("THE WALK as it was", walk(king).equals(before), true);
                for (int i = 0; i < 4; i++) {
                    Due.is("walk(" + (100 + i) + ")", king.walk(100 + i), due[keptOn][i]);
                }
            }
        }
    }

    private static void walkOfADayHeStayedAway() {
        BronzeKing king = Due.king("", "c1(d=0);e1(1=1)");
        king.days(2);
        king.keep();
        king.days(6);
        Due.is("he came", king.walk(101), 60);
        king.undo();
        Due.is("he stayed away", king.walk(101), -2);
        Due.is("THE DAY", king.count(0), 2);
    }

    private static void drawsComeAgain() {
        BronzeKing king = Due.king("", "c1(1=1);e1(1=1)");
        king.days(5);
        king.keep();
        int[] hours = new int[6];
        for (int i = 0; i < 6; i++) {
            king.days(1);
            hours[i] = king.walk(100);
        }
        king.seed(65535);
        king.undo();
        for (int i = 0; i < 6; i++) {
            king.days(1);
            Due.is("the HOUR again", king.walk(100), hours[i]);
        }
    }

    private static void keptOnTheLastDay() {
        BronzeKing king = new BronzeKing();
        Edges.letGo(king, 9998);
        Due.is("keep()", king.keep(), 9998);
        king.days(1);
        Due.is("none goes by", king.days(1), 0);
        Due.is("THE DAY", king.count(0), 9999);
        Due.is("undo()", king.undo(), true);
        Due.is("THE DAY", king.count(0), 9998);
        Due.law(king, "c1(1=1);e1(1=1)");
        Due.is("one goes by again", king.days(30), 60);
        Due.is("keep()", king.keep(), 9999);
    }

    private static void keptBeforeTheMost() {
        BronzeKing king = Due.king(TWO_PLACES, "c1(1=1);e1(1=1)");
        Edges.letGo(king, 333);
        Due.is("WEAR", king.placeIs(1, 0, 1), 9990);
        king.keep();
        king.days(5);
        Due.is("the most", king.placeIs(1, 0, 1), 9999);
        king.undo();
        Due.is("WEAR as it was", king.placeIs(1, 0, 1), 9990);
    }

    private static BronzeKing fed() {
        BronzeKing king = new BronzeKing();
        king.feed(0, 0, 0, 0, 0);
        return king;
    }

    /** "CHECK of ROW y by the first n bytes of the tape (0 to 12; ..)"; "-2: no such ones". */
    private static void checkNumbers() {
        Edges.range("check(y, 0)", 0, 7, -2, y -> fed().check(y, 0));
        Edges.range("check(y, 12)", 0, 7, -2, y -> fed().check(y, 12));
        Edges.range("check(0, n)", 0, 12, -2, n -> fed().check(0, n));
        Edges.range("check(7, n)", 0, 12, -2, n -> fed().check(7, n));
        Edges.range("check(0, n) of no tape", 0, 0, -2, n -> new BronzeKing().check(0, n));
        Edges.range("check(8, n)", 1, 0, -2, n -> fed().check(8, n));
    }

    /** "(.. empty then)"; "-2: .. it has not so many (the tape stays)". */
    private static void checkTheTape() {
        for (int n = -2; n <= 15; n++) {
            for (int y : new int[] {-1, 0, 7, 8}) {
                boolean isTaken = n >= 0 && n <= 12 && y >= 0 && y <= 7;
                BronzeKing king = fed();
                Due.is("check(" + y + ", " + n + ")", king.check(y, n), isTaken ? -1 : -2);
                Due.is("the tape", king.count(5), isTaken ? 0 : 20);
            }
        }
        BronzeKing none = new BronzeKing();
        Due.is("no byte of none", none.check(3, 0), -1);
        Due.is("one byte of none", none.check(3, 1), -2);
        BronzeKing wrong = new BronzeKing();
        wrong.feed(-1, -1, -1, -1, -1);
        Due.is("not so", wrong.check(0, 12), 0);
        Due.is("the tape is empty, too", wrong.count(5), 0);
    }

    /** "right, or the first X that is not so". */
    private static void checkTheFirstThatIsNotSo() {
        for (int at = 0; at < 14; at++) {
            for (int n = 0; n <= 12; n++) {
                byte[] bytes = new byte[20];
                for (int i = at; i < 20; i++) {
                    bytes[i] = 1;
                }
                BronzeKing king = new BronzeKing();
                Due.feed(king, bytes);
                Due.is("wrong from " + at + " on, " + n + " bytes", king.check(4, n), at < n ? at : -1);
            }
        }
    }

    /** "WEAR modulo 256". */
    private static void checkModulo256() {
        BronzeKing king = Due.king(TWO_PLACES, "c1(1=1);e1(1=1);s(m>1)");
        int[][] due = {{1, 1}, {254, 255}, {1, 0}, {1, 1}, {254, 255}, {1, 0}};
        int days = 0;
        for (int[] d : due) {
            Edges.letGo(king, d[0]);
            days += d[0];
            Due.is("WEAR", king.placeIs(1, 0, 1), days);
            check(king, d[1], true);
            check(king, d[1] + 1 & 255, false);
            check(king, d[1] + 255 & 255, false);
        }
        Due.law(king, "c1(1=1);e1(1=1)");
        Edges.letGo(king, 400);
        Due.is("the most WEAR", king.placeIs(0, 0, 1), 9999);
        check(king, 9999 % 256, true);
        check(king, 0, false);
    }

    private static void check(BronzeKing king, int value, boolean isSo) {
        Due.feed(king, new byte[] {(byte) value, (byte) value});
        Due.is("CHECK of " + value, king.check(0, 2), isSo ? -1 : 0);
    }

    private static void checkEachRow() {
        for (int y = 0; y < 8; y++) {
            BronzeKing king = Edges.kingAt(12 * y + 11, "", "c1(1=1);e1(y=" + y + ");s(m>0)");
            king.days(1);
            for (int row = 0; row < 8; row++) {
                Due.feed(king, new byte[] {0, 0, 0, 0, 0, 0, 0, 0, 0, 0, 1, 1});
                Due.is("ROW " + row, king.check(row, 12), row == y ? -1 : 10);
            }
        }
    }

    /** "count .. NONE for others". */
    private static void countNumbers() {
        BronzeKing king = Due.king("", "c9(1=1)");
        for (int k = 1; k <= 9; k++) {
            king.door(k, 3, 3);
        }
        for (int what = -10; what <= 140; what++) {
            boolean isTaken = what >= 0 && what <= 8 || what >= 11 && what <= 19 || what >= 100 && what <= 123;
            Due.is("count(" + what + ") is taken", king.count(what) != -1, isTaken);
        }
        for (int what : new int[] {Integer.MIN_VALUE, -256, 256, 267, 356, 65536, 65636, Integer.MAX_VALUE}) {
            Due.is("count(" + what + ")", king.count(what), -1);
        }
    }

    /** "10 + k the PLACE of told DOOR k (1 to 9)". */
    private static void countOfDoors() {
        BronzeKing king = new BronzeKing();
        for (int what = 9; what <= 21; what++) {
            Due.is("none is told", king.count(what), -1);
        }
        for (int k = 1; k <= 9; k++) {
            king.door(k, k + 2, 8 - (k + 1) / 2);
            Due.is("DOOR " + k, king.count(10 + k), 12 * (8 - (k + 1) / 2) + k + 2);
            Due.is("told", king.count(2), (1 << k + 1) - 2);
        }
        Due.is("no DOOR 0", king.count(10), -1);
        Due.is("no DOOR 10", king.count(20), -1);
    }

    /** "8 weights of all HOURS"; "100 + h the weight of HOUR h", WATCHED or not. */
    private static void countOfWeights() {
        BronzeKing king = Due.king("", "c99-h(1=1)");
        Due.notes(king, "0:23-");
        int all = 0;
        for (int hour = 0; hour < 24; hour++) {
            Due.is("HOUR " + hour, king.count(100 + hour), 99 - hour);
            all += 99 - hour;
        }
        Due.is("all", king.count(8), all);
        Due.is("99", king.count(99), -1);
        Due.is("124", king.count(124), -1);
    }

    /** "7 WEAR of all", also of what is a wall now. */
    private static void countOfWear() {
        BronzeKing king = Due.king("", "c1(1=1);e1(1=1)");
        king.days(2);
        Due.is("WEAR", king.count(7), 120);
        Due.map(king, Edges.only('#'));
        Due.is("behind a map", king.count(7), 120);
        Due.is("of a wall", king.placeIs(11, 0, 1) > 0, true);
        Due.is("the wall is most worn", king.worn(), 11);
        int sum = 0;
        for (int place = 0; place < 96; place++) {
            sum += king.placeIs(place % 12, place / 12, 1);
        }
        Due.is("added up", sum, 120);
    }

    /** "An object is used for at most 512 calls". */
    private static void fiveHundredCalls() {
        BronzeKing king = Due.king("", "c1(1=1);e9-w(1=1)");
        for (int i = 0; i < 250; i++) {
            Due.is("keep()", king.keep(), 2 * i);
            king.days(2);
        }
        Due.is("THE DAY", king.count(0), 500);
    }
}
