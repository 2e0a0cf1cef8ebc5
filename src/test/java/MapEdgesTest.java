/** Boundary cases of THE TOWN and A MAP: promises 1 to 4, 6 and 10. */
public final class MapEdgesTest {
    private static final String SIGNS = ".#+";
    private static final String MANY = "23456789";
    private static final String NINTH = "././././././././";

    private MapEdgesTest() {
    }

    public static void main(String[] args) {
        everyPlaceAndBeside();
        farOffPlaces();
        neighboursAtTheEdge();
        noWayOverTheEdge();
        squareIsOpenWhateverTheMapTells();
        doorNumbers();
        doorInPlaceOfTheOneBefore();
        theTape();
        highestByteFirst();
        mapLengths();
        mapOfTheFirstBytesAlone();
        rows();
        signsInARow();
        digitsAheadOfASign();
        everyByte();
        faultsFromTheLeft();
        ninthRow();
        whatNoRowTells();
        placeIsEdges();
        newObjects();
        Due.end();
    }

    /** "PLACES, X 0 to 11, Y 0 to 7"; "false: no such PLACE"; "NONE: no such PLACE". */
    private static void everyPlaceAndBeside() {
        for (int y = -3; y <= 10; y++) {
            for (int x = -3; x <= 14; x++) {
                boolean isPlace = x >= 0 && x <= 11 && y >= 0 && y <= 7;
                place(x, y, isPlace);
            }
        }
    }

    private static void place(int x, int y, boolean isPlace) {
        String at = x + ", " + y;
        BronzeKing king = new BronzeKing();
        Due.is("old " + at, king.old(x, y), isPlace ? x + y : -1);
        Due.is("barred 0 " + at, king.barred(x, y, 0), isPlace ? 0 : -1);
        Due.is("barred 1 " + at, king.barred(x, y, 1), isPlace ? 0 : -1);
        Due.is("placeIs 0 " + at, king.placeIs(x, y, 0), isPlace ? 2 : -1);
        Due.is("placeIs 2 " + at, king.placeIs(x, y, 2), isPlace ? x + y : -1);
        Due.is("door " + at, king.door(5, x, y), isPlace);
        Due.is("count(2) " + at, king.count(2), isPlace ? 32 : 0);
        Due.is("count(15) " + at, king.count(15), isPlace ? 12 * y + x : -1);
        Due.is("square " + at, king.square(x, y), isPlace);
        Due.is("count(3) " + at, king.count(3), isPlace ? 12 * y + x : 0);
        Due.is("streets(4) " + at, king.streets(4), 96);
    }

    private static void farOffPlaces() {
        int[] far = {Integer.MIN_VALUE, Integer.MAX_VALUE, -65536, 65536, -256, 256, -12, 24, 1 << 30};
        for (int n : far) {
            place(n, 0, false);
            place(5, n, false);
            place(n, n, false);
        }
    }

    /** "STEPS go to open PLACES up, right, down, left": at the town's edge there are fewer. */
    private static void neighboursAtTheEdge() {
        BronzeKing king = new BronzeKing();
        for (int place = 0; place < 96; place++) {
            int x = place % 12;
            int y = place / 12;
            int due = 4 - (x == 0 || x == 11 ? 1 : 0) - (y == 0 || y == 7 ? 1 : 0);
            Due.is("neighbours of " + place, king.placeIs(x, y, 4), due);
        }
    }

    private static void noWayOverTheEdge() {
        int[][] pairs = {{11, 12}, {0, 11}, {84, 95}, {5, 89}, {0, 84}, {47, 48}, {83, 84}};
        for (int[] pair : pairs) {
            BronzeKing king = Edges.kingAt(pair[0], Edges.only('#', pair), "");
            king.door(9, pair[0] % 12, pair[0] / 12);
            int x = pair[1] % 12;
            int y = pair[1] / 12;
            Due.is("open", king.placeIs(x, y, 0), 2);
            Due.is("no way from " + pair[0] + " to " + pair[1], king.placeIs(x, y, 2), 99);
            Due.is("n", king.placeIs(x, y, 3), 99);
            Due.is("no neighbour", king.placeIs(x, y, 4), 0);
            Due.is("old", king.old(x, y), -2);
            Due.is("two islands", king.streets(0), 2);
            Due.is("two dead ends", king.streets(1), 2);
            Due.is("far(60)", king.far(60), 1);
            Due.is("chase", king.chase(pair[0], pair[1]), -2);
        }
        for (int[] pair : new int[][] {{47, 59}, {48, 36}, {40, 52}, {95, 83}, {95, 94}, {84, 85}}) {
            BronzeKing king = Edges.kingAt(pair[0], Edges.only('#', pair), "");
            Due.is("one STEP", king.placeIs(pair[1] % 12, pair[1] / 12, 2), 1);
            Due.is("one island", king.streets(0), 1);
        }
    }

    /** "THE SQUARE (a PLACE; X 0, Y 0 at first; open whatever the map tells)". */
    private static void squareIsOpenWhateverTheMapTells() {
        for (char wall : new char[] {'#', '+'}) {
            BronzeKing king = Due.king(Edges.only(wall), "");
            for (int place = 0; place < 96; place++) {
                Due.is("square", king.square(place % 12, place / 12), true);
                Due.is("it is open", king.placeIs(place % 12, place / 12, 0), 2);
                Due.is("it alone", king.streets(4), 1);
                Due.is("a chase on it", king.chase(place, place), 0);
                Due.is("a chase beside it", king.chase(place, place == 0 ? 1 : 0), -1);
            }
        }
        BronzeKing later = Edges.kingAt(5, "", "");
        Due.is("a map that comes later", Due.map(later, "6#"), 1);
        Due.is("it is open", later.placeIs(5, 0, 0), 2);
        Due.is("the next one is not", later.placeIs(4, 0, 0), 0);
    }

    /** "DOORS 1 to 9". */
    private static void doorNumbers() {
        Edges.range("door(k, 3, 2)", 1, 9, 0, k -> new BronzeKing().door(k, 3, 2) ? 1 : 0);
        for (int k = 1; k <= 9; k++) {
            BronzeKing king = new BronzeKing();
            Due.is("door", king.door(k, 3, 2), true);
            Due.is("bit " + k, king.count(2), 1 << k);
            for (int other = 1; other <= 9; other++) {
                Due.is("count(10 + " + other + ")", king.count(10 + other), other == k ? 27 : -1);
            }
        }
    }

    /** "A DOOR at a PLACE (in place of the one before)"; several may stand at one. */
    private static void doorInPlaceOfTheOneBefore() {
        BronzeKing king = new BronzeKing();
        for (int k = 1; k <= 9; k++) {
            king.door(k, 11, 7);
        }
        Due.is("all nine", king.count(2), 1022);
        Due.is("one moves", king.door(4, 0, 0), true);
        Due.is("it has moved", king.count(14), 0);
        Due.is("the others stay", king.count(13) + king.count(15), 190);
        Due.is("no such PLACE", king.door(4, 12, 7), false);
        Due.is("it stays", king.count(14), 0);
        Due.is("all nine still", king.count(2), 1022);
    }

    /** "how many it has; NONE if that would be more than 260". */
    private static void theTape() {
        BronzeKing king = new BronzeKing();
        Due.is("nothing at first", king.count(5), 0);
        for (int i = 1; i <= 13; i++) {
            Due.is("feed", king.feed(-1, i, 0, Integer.MIN_VALUE, 7), 20 * i);
            Due.is("count(5)", king.count(5), 20 * i);
        }
        for (int i = 0; i < 3; i++) {
            Due.is("feed beyond 260", king.feed(1, 2, 3, 4, 5), -1);
            Due.is("it has as many", king.count(5), 260);
        }
        Due.is("emptied", king.check(0, 0), -1);
        Due.is("from the start again", king.feed(0, 0, 0, 0, 0), 20);
    }

    /** "Twenty bytes come behind the tape, the highest of each int first", also those above 127. */
    private static void highestByteFirst() {
        for (int at = 0; at < 24; at++) {
            for (int value : new int[] {1, 127, 128, 255}) {
                int[] words = new int[10];
                words[at / 4] = value << 24 - at % 4 * 8;
                BronzeKing king = new BronzeKing();
                king.feed(words[0], words[1], words[2], words[3], words[4]);
                king.feed(words[5], words[6], words[7], words[8], words[9]);
                Due.is("the byte at " + at, king.pigeons(0), at);
                king.feed(words[0], words[1], words[2], words[3], words[4]);
                king.feed(words[5], words[6], words[7], words[8], words[9]);
                Due.is("it is " + value, king.pigeons(1), 2 * value);
            }
        }
    }

    private static BronzeKing fed(int times) {
        BronzeKing king = new BronzeKing();
        for (int i = 0; i < times; i++) {
            king.feed(0x2E2F2E2F, 0x2E2F2E2F, 0x2E2F2E2F, 0x2E2F2E2F, 0x2E2F2E2F);
        }
        return king;
    }

    /** "A MAP by the first n bytes of the tape (1 to 110; empty then)"; "NONE: no such n, it has not so many". */
    private static void mapLengths() {
        for (int times = 0; times <= 13; times++) {
            int most = Math.min(110, 20 * times);
            int fed = times;
            Edges.range("map(n) of " + 20 * times, 1, most, -1, n -> fed(fed).map(n));
        }
        for (int n : new int[] {-1, 0, 1, 2, 110, 111, 120, 121}) {
            BronzeKing king = fed(6);
            boolean isTaken = n >= 1 && n <= 110;
            king.map(n);
            Due.is("the tape behind map(" + n + ")", king.count(5), isTaken ? 0 : 120);
        }
        String whole = Edges.only('+', 0, 95);
        Due.is("the longest that can stand", whole.length(), 103);
        Due.is("eight ROWS", Due.map(new BronzeKing(), whole), 8);
        Due.is("110 bytes", Due.map(new BronzeKing(), whole + "/......"), Edges.fault(4, 104));
    }

    private static void mapOfTheFirstBytesAlone() {
        BronzeKing king = new BronzeKing();
        Due.feed(king, "#+/##x/////");
        Due.is("two bytes", king.map(2), 1);
        Due.is("what stands behind them is gone", king.count(5), 0);
        Due.is("nor told", king.placeIs(0, 1, 0), 2);
        Due.is("what is told", king.placeIs(1, 0, 0), 1);
    }

    /** "ROWS (1 to 8) with a / between two". */
    private static void rows() {
        for (int n = 1; n <= 10; n++) {
            for (String row : new String[] {".", "#", "+", "2.", "9+3#"}) {
                String text = Edges.rows(n, row, "/");
                int due = n <= 8 ? n : Edges.fault(4, 8 * (row.length() + 1));
                BronzeKing king = new BronzeKing();
                Due.is("map " + text, Due.map(king, text), due);
                int kind = row.startsWith("#") ? 0 : row.indexOf('+') >= 0 ? 1 : 2;
                // Of one ROW it is THE SQUARE, and a FAULT tells nothing.
                int last = Math.min(n, 8) - 1;
                Due.is("the last ROW", king.placeIs(0, last, 0), n > 1 && n <= 8 ? kind : 2);
            }
        }
        BronzeKing lines = Due.king(Edges.rows(8, "9+3#", "/"), "");
        for (int y = 0; y < 8; y++) {
            Due.is("X 8 of ROW " + y, lines.placeIs(8, y, 0), 1);
            Due.is("X 9 of ROW " + y, lines.placeIs(9, y, 0), 0);
            Due.is("X 11 of ROW " + y, lines.placeIs(11, y, 0), 0);
        }
    }

    /** "SIGNS, 1 to 12 in all"; "6 more than 12 in a ROW, at the first byte of the SIGN". */
    private static void signsInARow() {
        for (int n = 1; n <= 15; n++) {
            BronzeKing king = new BronzeKing();
            int due = n <= 12 ? 1 : Edges.fault(6, 12);
            Due.is(n + " SIGNS", Due.map(king, Edges.rows(n, "#", "")), due);
            for (int x = 0; x < 12; x++) {
                Due.is("X " + x, king.placeIs(x, 0, 0), x > 0 && x < n && n <= 12 ? 0 : 2);
            }
            String eighth = Edges.rows(7, ".", "/") + "/" + Edges.rows(n, "+", "");
            Due.is("in the eighth ROW", Due.map(king, eighth), n <= 12 ? 8 : Edges.fault(6, 26));
        }
    }

    /** "ahead of each perhaps a digit 2 to 9 (so many of it)"; FAULT 6 "at .. its digit". */
    private static void digitsAheadOfASign() {
        for (int ahead = 0; ahead <= 12; ahead++) {
            for (int digit = 0; digit <= 9; digit++) {
                String text = Edges.rows(ahead, ".", "") + digit + "+";
                int due = digit < 2 ? Edges.fault(1, ahead) : ahead + digit > 12 ? Edges.fault(6, ahead) : 1;
                BronzeKing king = Edges.kingAt(95, "", "");
                Due.is("map " + text, Due.map(king, text), due);
                for (int x = 0; x < 12 && due == 1; x++) {
                    boolean isWall = x >= ahead && x < ahead + digit;
                    Due.is("X " + x + " of " + text, king.placeIs(x, 0, 0), isWall ? 1 : 2);
                }
            }
        }
    }

    private static int map(String ahead, int sign) {
        return Due.map(new BronzeKing(), ahead + (char) sign);
    }

    /** "1 what can't stand there (the end, too)": each byte at each kind of place. */
    private static void everyByte() {
        for (int b = 0; b < 256; b++) {
            boolean isSign = Edges.has(SIGNS, b);
            boolean isMany = Edges.has(MANY, b);
            boolean ends = b == '/';
            Due.is("at first " + b, map("", b), isSign ? 1 : Edges.fault(1, isMany ? 1 : 0));
            Due.is("behind a SIGN " + b, map(".", b), isSign ? 1 : Edges.fault(1, isMany || ends ? 2 : 1));
            Due.is("behind a digit " + b, map("3", b), isSign ? 1 : Edges.fault(1, 1));
            Due.is("behind a / " + b, map("./", b), isSign ? 2 : Edges.fault(1, isMany ? 3 : 2));
            Due.is("behind twelve " + b, map("9.3#", b),
                isSign ? Edges.fault(6, 4) : Edges.fault(1, isMany || ends ? 5 : 4));
            Due.is("behind a digit too many " + b, map("9.9", b), isSign ? Edges.fault(6, 2) : Edges.fault(1, 3));
            Due.is("in a ninth ROW " + b, map(NINTH, b), Edges.fault(isSign || isMany ? 4 : 1, 16));
        }
    }

    /** "FAULTS, the first from the left". */
    private static void faultsFromTheLeft() {
        String[] texts = {"9.4.x", "9.4./", "x9.9.", "9.3.9#", "./.x/9.9.", "9.9./x", "..1.", "9.9.9.9."};
        int[] due = {-6002, -6002, -1000, -6004, -1003, -6002, -1002, -6002};
        for (int i = 0; i < texts.length; i++) {
            BronzeKing king = Due.king("+#/9+/4#", "");
            String before = kinds(king);
            Due.is("map " + texts[i], Due.map(king, texts[i]), due[i]);
            Due.is("the one before stays", kinds(king).equals(before), true);
            Due.is("the tape is empty", king.count(5), 0);
        }
    }

    private static String kinds(BronzeKing king) {
        StringBuilder s = new StringBuilder();
        for (int place = 0; place < 96; place++) {
            s.append(king.placeIs(place % 12, place / 12, 0)).append(king.placeIs(place % 12, place / 12, 2));
        }
        return s.toString();
    }

    /** "4 a ninth ROW, at its first byte (if that can stand there)", whatever comes behind. */
    private static void ninthRow() {
        String[] behind = {".", "2", "9#", "+x", "//", "x", "1.", "", "/", "9.9."};
        int[] numbers = {4, 4, 4, 4, 1, 1, 1, 1, 1, 4};
        for (int i = 0; i < behind.length; i++) {
            Due.is("ninth " + behind[i], Due.map(new BronzeKing(), NINTH + behind[i]), Edges.fault(numbers[i], 16));
        }
    }

    /** "In place of the one before; what no ROW tells is open". */
    private static void whatNoRowTells() {
        BronzeKing king = Edges.kingAt(0, Edges.only('#'), "");
        Due.is("all walls", king.streets(4), 1);
        Due.is("one SIGN", Due.map(king, "+"), 1);
        Due.is("all is open", king.streets(4), 96);
        Due.is("but where it is not THE SQUARE", king.square(1, 0), true);
        Due.is("95 then", king.streets(4), 95);
        Due.is("two ROWS", Due.map(king, "2#/#"), 2);
        Due.is("the first", king.placeIs(0, 0, 0), 0);
        Due.is("behind it", king.placeIs(2, 0, 0), 2);
        Due.is("the second", king.placeIs(0, 1, 0), 0);
        Due.is("behind it", king.placeIs(1, 1, 0), 2);
        Due.is("below it", king.placeIs(0, 2, 0), 2);
    }

    /** "placeIs .. what 0 .. 4 open neighbours; NONE for others"; "(99: no way)". */
    private static void placeIsEdges() {
        BronzeKing king = Edges.kingAt(50, Edges.only('#', 37, 38, 26, 39, 0, 11), "");
        king.door(9, 1, 4);
        Edges.range("placeIs(2, 3, what)", 0, 4, -1, what -> king.placeIs(2, 3, what));
        Edges.range("placeIs(12, 3, what)", 1, 0, -1, what -> king.placeIs(12, 3, what));
        Due.is("four neighbours", king.placeIs(2, 3, 4), 4);
        Due.is("none", king.placeIs(11, 0, 4), 0);
        Due.is("of a wall", king.placeIs(2, 5, 4), 1);
        Due.is("there", king.placeIs(2, 4, 2), 0);
        Due.is("one STEP", king.placeIs(2, 3, 2), 1);
        Due.is("no way", king.placeIs(0, 0, 2), 99);
        Due.is("no way to a wall", king.placeIs(2, 5, 2), 99);
        Due.is("DOOR 9 on a wall", king.placeIs(1, 3, 3), 99);
        king.door(9, 0, 0);
        Due.is("DOOR 9 there", king.placeIs(0, 0, 3), 0);
        Due.is("DOOR 9 on another island", king.placeIs(2, 3, 3), 99);
        king.door(9, 2, 2);
        Due.is("DOOR 9", king.placeIs(2, 4, 3), 2);
        BronzeKing other = new BronzeKing();
        for (int k = 1; k <= 8; k++) {
            other.door(k, 0, 0);
        }
        Due.is("n when DOOR 9 is not told", other.placeIs(0, 0, 3), 99);
    }

    /** "No walls, DOORS, LAW; THE SEED 1"; "All memory is the town's own". */
    private static void newObjects() {
        BronzeKing busy = Edges.kingAt(17, "+/#", "c9(1=1);e1(1=1)");
        busy.door(9, 4, 4);
        Due.notes(busy, "0:23-");
        busy.days(30);
        busy.keep();
        busy.feed(1, 2, 3, 4, 5);
        BronzeKing fresh = new BronzeKing();
        busy.days(1);
        int[] due = {0, 0, 0, 0, 0, 0, 1, 0, 0, -1, -1};
        for (int what = 0; what < due.length; what++) {
            Due.is("count(" + what + ") of a new one", fresh.count(what), due[what]);
        }
        Due.is("nothing KEPT", fresh.undo(), false);
        Due.is("no WALK", fresh.walk(0), -2);
        Due.is("no WEAR", fresh.worn(), -2);
        Due.is("no walls", fresh.streets(4), 96);
        Due.is("no LAW", fresh.days(30), 0);
        Due.is("no DRAW", fresh.count(6), 1);
        Due.is("THE DAY", fresh.count(0), 30);
        Due.is("the other one's DAY", busy.count(0), 31);
        Due.is("the other one's tape", busy.count(5), 20);
    }
}
