/** Boundary cases of A DAY: promises 8, 9, 14, 15 and 25. */
public final class DayEdgesTest {
    /** One street of 53 PLACES, down and up all the town, from 0, 0 to 10, 0. */
    private static final String SNAKE = ".#3.#3.#.#/.#.#.#.#.#.#/.#.#.#.#.#.#/.#.#.#.#.#.#/.#.#.#.#.#.#/"
        + ".#.#.#.#.#.#/.#.#.#.#.#.#/3.#3.#3.#";
    private static final String TWO_PLACES = Edges.only('#', 0, 1);

    private DayEdgesTest() {
    }

    public static void main(String[] args) {
        howManyDays();
        howManyAreTried();
        triedWhat();
        theHourByTheDraw();
        theDrawGoesRound();
        noDrawWithoutWeights();
        seedNumbers();
        backInTime();
        backInTimeByEachStart();
        asManyAsTheMinutesBehind();
        onTheSquareNothingCallsHim();
        firstStepOfAShortestWay();
        likesOfLikeOnes();
        doorsOnceADay();
        doorAtTheSquare();
        wearAtMost();
        wearOfThePlaceHeComesTo();
        lastDays();
        lastDayTried();
        walkWhat();
        walkOfTheLastDayAlone();
        farthestOfTheDayAlone();
        worn();
        triedChangesNothing();
        Due.end();
    }

    private static BronzeKing goer() {
        return Due.king("", "c1(h=5);e1(1=1)");
    }

    /** "DAYS (1 to 30 ..) go by .. NONE: no such n". */
    private static void howManyDays() {
        Edges.range("days(n)", 1, 30, -1, n -> goer().days(n));
        for (int n = 1; n <= 30; n++) {
            BronzeKing king = goer();
            Due.is("days(" + n + ")", king.days(n), 60 * n);
            Due.is("THE DAY", king.count(0), n);
        }
        for (int n : new int[] {-1, 0, 31, Integer.MAX_VALUE}) {
            BronzeKing king = goer();
            Due.is("days(" + n + ")", king.days(n), -1);
            Due.is("THE DAY", king.count(0), 0);
            Due.is("X", king.count(6), 1);
            Due.is("THE WALK", king.walk(100), -2);
        }
        Due.is("he stays away", new BronzeKing().days(30), 0);
    }

    /** "DAYS (1 to 30 ..) that are tried". */
    private static void howManyAreTried() {
        for (int what : new int[] {0, 1, 2, 3, 100, 195}) {
            Edges.range("tried(n, " + what + ")", 1, 30, -1, n -> goer().tried(n, what));
        }
        for (int n = 1; n <= 30; n++) {
            Due.is("tried(" + n + ", 0)", goer().tried(n, 0), 60 * n);
            Due.is("tried(" + n + ", 1)", goer().tried(n, 1), n);
        }
    }

    /** "what 0 STEPS .., 3 the HOUR .., 100 + 12 Y + X WEAR of a PLACE then; NONE: no such ones". */
    private static void triedWhat() {
        BronzeKing king = goer();
        for (int what = -5; what <= 205; what++) {
            boolean isTaken = what >= 0 && what <= 3 || what >= 100 && what <= 195;
            Due.is("tried(1, " + what + ") is taken", king.tried(1, what) != -1, isTaken);
        }
        for (int what : new int[] {Integer.MIN_VALUE, -256, 256, 356, 65536, Integer.MAX_VALUE}) {
            Due.is("tried(1, " + what + ")", king.tried(1, what), -1);
        }
        king.days(1);
        for (int place = 0; place < 96; place++) {
            int now = king.placeIs(place % 12, place / 12, 1);
            Due.is("WEAR of " + place + " by two DAYS", king.tried(1, 100 + place), 2 * now);
        }
        BronzeKing away = new BronzeKing();
        Due.is("he does not come", away.tried(30, 3), -2);
        Due.is("he does not come", away.tried(30, 1), 0);
        BronzeKing seldom = Due.king("", "c1(h=0&d=0)");
        Due.is("HOUR 0 of the first DAY", seldom.tried(1, 3), 0);
        Due.is("not on the second", seldom.tried(2, 3), -2);
        Due.is("not on the seventh", seldom.tried(7, 3), -2);
        Due.is("on the eighth", seldom.tried(8, 3), 0);
        Due.is("HOUR 23", Due.king("", "c1(h=23)").tried(1, 3), 23);
    }

    /** "the first HOUR up to which (with it) they are more than the DRAW". */
    private static void theHourByTheDraw() {
        BronzeKing king = Due.king("", "c3(h=1);c1(h=2);c4(h=9);c5(h=23)");
        int[] hours = {1, 1, 1, 2, 9, 9, 9, 9, 23, 23, 23, 23, 23};
        boolean[] seen = new boolean[13];
        for (int seed = 0; seed < 200; seed++) {
            int draw = (25173 * seed + 13849) % 65536 % 13;
            king.seed(seed);
            seen[draw] = true;
            Due.is("the HOUR by a DRAW of " + draw, king.tried(1, 3), hours[draw]);
        }
        for (int draw = 0; draw < 13; draw++) {
            Due.is("a DRAW of " + draw + " was met", seen[draw], true);
        }
        BronzeKing most = Due.king("", "c99(1=1)");
        for (int seed = 0; seed < 65536; seed += 1311) {
            most.seed(seed);
            int draw = (25173 * seed + 13849) % 65536 % 2376;
            Due.is("of 2376", most.tried(1, 3), draw / 99);
        }
    }

    /** "X = (25173 X + 13849) modulo 65536". */
    private static void theDrawGoesRound() {
        BronzeKing king = Due.king("", "c1(1=1)");
        for (int seed : new int[] {0, 1, 2, 3, 32767, 32768, 65534, 65535}) {
            Due.is("seed", king.seed(seed), true);
            long x = seed;
            for (int i = 0; i < 3; i++) {
                x = (25173 * x + 13849) % 65536;
                king.days(1);
                Due.is("X behind " + seed, king.count(6), x);
            }
        }
    }

    /** "none: he does not come down (no DRAW)"; THE DAY goes by all the same. */
    private static void noDrawWithoutWeights() {
        String[] laws = {"", "e1(1=1)", "c0(1=1)", "c1(1=2)", "c0-5(1=1)", "c1/0(1=1)", "c1(1/0=1)"};
        for (String law : laws) {
            BronzeKing king = Due.king("", law);
            king.seed(77);
            Due.is("STEPS by " + law, king.days(4), 0);
            Due.is("X", king.count(6), 77);
            Due.is("THE DAY", king.count(0), 4);
            Due.is("THE WALK", king.walk(100), -2);
            Due.is("where", king.walk(0), -2);
            Due.is("WEAR", king.count(7), 0);
        }
        BronzeKing one = Due.king("", "c1(h=17)");
        one.days(1);
        Due.is("the least weight", one.walk(100), 17);
        Due.is("a DRAW also where there is no choice", one.count(6), 39022);
    }

    /** "THE SEED (0 to 65535; X, too): true; false: no such number". */
    private static void seedNumbers() {
        Edges.range("seed(x)", 0, 65535, 0, x -> {
            BronzeKing king = new BronzeKing();
            boolean answer = king.seed(x);
            Due.is("X behind seed(" + x + ")", king.count(6), answer ? x : 1);
            return answer ? 1 : 0;
        });
    }

    /** "are the STEPS .. as many as the MINUTES behind this one (59 less the MINUTE) or more, he goes .. there". */
    private static void backInTime() {
        BronzeKing king = Due.king(SNAKE, "c1(1=1);eb(1=1)");
        Due.is("a STEP each MINUTE", king.days(1), 60);
        Due.is("30 STEPS out at most", king.walk(103), 30);
        for (int minute = 0; minute < 60; minute++) {
            int at = king.walk(minute);
            int due = minute < 30 ? minute + 1 : 59 - minute;
            Due.is("how far in MINUTE " + minute, king.placeIs(at % 12, at / 12, 2), due);
        }
    }

    /** He stands on THE SQUARE for some MINUTES and then goes out as far as he can. */
    private static void backInTimeByEachStart() {
        for (int start = 1; start < 59; start++) {
            BronzeKing king = Due.king(SNAKE, "c1(1=1);eb(m<" + (start + 1) + "|b>1);s(m<" + start + "|b=0&m>" + start
                + ")");
            king.days(1);
            // At MINUTE m he is m - start STEPS off, and goes on while that is less than 59 - m.
            int far = (60 - start) / 2;
            Due.is("how far from MINUTE " + start + " on", king.walk(103), far);
            Due.is("out and back", king.walk(101), 2 * far);
            Due.is("the last MINUTE", king.walk(59), 0);
        }
    }

    /** He stands at some STEPS from THE SQUARE till the last MINUTE that lets him. */
    private static void asManyAsTheMinutesBehind() {
        for (int far = 1; far <= 29; far++) {
            BronzeKing king = Due.king(SNAKE, "c1(1=1);eb(1=1);s(m>" + (far - 1) + ")");
            Due.is("out and back", king.days(1), 2 * far);
            int stands = king.walk(far - 1);
            Due.is("he is there", king.placeIs(stands % 12, stands / 12, 2), far);
            Due.is("he stands in MINUTE 58 less " + far, king.walk(58 - far), stands);
            Due.is("he goes in MINUTE 59 less " + far, king.walk(59 - far) != stands, true);
            Due.is("he is back", king.walk(58), 0);
            Due.is("he stays", king.walk(59), 0);
        }
    }

    /** "is he not on THE SQUARE": there he may go off in any MINUTE, as the words say, in the last one, too. */
    private static void onTheSquareNothingCallsHim() {
        BronzeKing last = Due.king("", "c1(1=1);e1(1=1);s(m<59)");
        Due.is("one STEP", last.days(1), 1);
        Due.is("off it", last.walk(59), 1);
        Due.is("one off", last.walk(103), 1);
        BronzeKing next = Due.king("", "c1(1=1);e1(1=1);s(m<58)");
        Due.is("two STEPS", next.days(1), 2);
        Due.is("off it", next.walk(58), 1);
        Due.is("back", next.walk(59), 0);
        next.days(1);
        Due.is("the next DAY starts on it", next.walk(57), 0);
    }

    /** "he goes the first STEP (up, right, down, left) of a shortest way there". */
    private static void firstStepOfAShortestWay() {
        int[][] cases = {{40, 27, 28}, {40, 29, 41}, {40, 51, 39}, {40, 53, 41}};
        for (int[] c : cases) {
            BronzeKing king = Edges.kingAt(c[0], "", "");
            int x = c[1] % 12;
            int y = c[1] / 12;
            Due.law(king, "c1(1=1);e1(x=" + x + "&y=3);e1(x=" + x + "&y=" + y + ");s(m>1)");
            king.days(1);
            Due.is("he stood at " + c[1], king.walk(56), c[1]);
            Due.is("the first STEP back", king.walk(57), c[2]);
            Due.is("back", king.walk(58), c[0]);
        }
        BronzeKing walled = Edges.kingAt(13, "4.8#/#.#.8#/4.8#", "c1(1=1);e1(m=0&y=2|m=1&x=2|m=2&x=3|m=3&y=1);s(m>3)");
        walled.days(1);
        Due.is("he stood at 3, 1", walled.walk(54), 15);
        Due.is("up, where the ways are alike", walled.walk(55), 3);
    }

    /** "of like ones the first of up, right, down, left; none: he stands still". */
    private static void likesOfLikeOnes() {
        int[] beside = {28, 41, 52, 39};
        for (int bits = 0; bits < 16; bits++) {
            StringBuilder law = new StringBuilder("c1(1=1);s(m>0)");
            int due = 40;
            for (int way = 3; way >= 0; way--) {
                if ((bits >> way & 1) != 0) {
                    due = beside[way];
                    law.append(";e7(x=").append(due % 12).append("&y=").append(due / 12).append(")");
                }
            }
            BronzeKing king = Edges.kingAt(40, "", law.toString());
            king.days(1);
            Due.is("the first of the ways " + bits, king.walk(0), due);
            Due.is("STEPS", king.walk(101), bits == 0 ? 0 : 2);
        }
    }

    /** "with a DOOR he calls there (each once a DAY)". */
    private static void doorsOnceADay() {
        BronzeKing king = Due.king(TWO_PLACES, "c1(1=1);e1(1=1)");
        king.door(1, 1, 0);
        king.door(9, 1, 0);
        Due.is("thirty times there", king.days(1), 60);
        Due.is("two DOORS", king.walk(102), 1 << 1 | 1 << 9);
        Due.is("tried DAY by DAY", king.tried(30, 2), 60);
        BronzeKing v = Due.king(TWO_PLACES, "c1(1=1);e1(v<2);s(v=1&m<9|v=2)");
        v.door(3, 1, 0);
        v.door(4, 1, 0);
        Due.is("v is two at once", v.days(1), 2);
        Due.is("he stands there", v.walk(57), 1);
        BronzeKing none = Due.king(TWO_PLACES, "c1(1=1);e1(1=1)");
        none.door(5, 2, 0);
        none.door(6, 11, 7);
        Due.is("a DOOR elsewhere", none.days(1), 60);
        Due.is("is not called at", none.walk(102), 0);
    }

    /** A DOOR at THE SQUARE is called at when he comes to it by a STEP, not at MINUTE 0. */
    private static void doorAtTheSquare() {
        BronzeKing stands = Due.king("", "c1(1=1);e1(1=1);s(1=1)");
        stands.door(2, 0, 0);
        stands.days(1);
        Due.is("he stands there all the hour", stands.walk(102), 0);
        Due.is("he was there", stands.walk(0), 0);
        BronzeKing back = Due.king("", "c1(1=1);e1(1=1);s(m>0)");
        back.door(2, 0, 0);
        back.days(1);
        Due.is("he comes back", back.walk(102), 4);
        BronzeKing off = Due.king("", "c1(1=1);e1(1=1);s(m<59)");
        off.door(2, 0, 0);
        off.days(1);
        Due.is("he only goes off", off.walk(102), 0);
    }

    /** "WEAR of each PLACE (0 at first; 9999 at most)". */
    private static void wearAtMost() {
        BronzeKing king = Due.king(TWO_PLACES, "c1(1=1);e1(1=1);s(m>1)");
        Edges.letGo(king, 9997);
        Due.is("one a DAY", king.placeIs(1, 0, 1), 9997);
        Due.law(king, "c1(1=1);e1(1=1);s(m>0)");
        Due.is("tried once", king.tried(1, 101), 9998);
        Due.is("tried twice", king.tried(2, 101), 9999);
        Due.is("a DAY", king.days(1), 2);
        Due.is("9998", king.placeIs(1, 0, 1), 9998);
        Due.is("THE DAY", king.count(0), 9998);
        Due.law(king, "c1(1=1);e1(1=1)");
        Due.is("tried, thirty times there", king.tried(1, 101), 9999);
        Due.is("the other one", king.tried(1, 100), 9999);
        Due.is("the last DAY", king.days(1), 60);
        Due.is("9999 at most", king.placeIs(1, 0, 1), 9999);
        Due.is("of all", king.count(7), 2 * 9999);
        Due.is("STEPS are counted all the same", king.walk(101), 60);
        Due.is("the first of like ones", king.worn(), 0);
    }

    /** "The PLACE he comes to by a STEP has WEAR one more", before the next MINUTE. */
    private static void wearOfThePlaceHeComesTo() {
        BronzeKing king = Due.king(TWO_PLACES, "c1(1=1);e1(w<3);s(m>50)");
        Due.is("three times each", king.days(1), 6);
        Due.is("the one", king.placeIs(0, 0, 1), 3);
        Due.is("the other", king.placeIs(1, 0, 1), 3);
        BronzeKing still = Due.king("", "c1(1=1);e1(1=1);s(w=1)");
        still.days(1);
        Due.is("THE SQUARE has none at first", still.walk(0), 1);
        Due.is("w of where he is", still.walk(1), 1);
        Due.is("two STEPS", still.count(7), 2);
    }

    /** "(9999 at most: then none goes by)"; "as many as can". */
    private static void lastDays() {
        BronzeKing king = Due.king(TWO_PLACES, "c1(1=1);e1(1=1);s(m>1)");
        Edges.letGo(king, 9969);
        Due.is("THE DAY", king.count(0), 9969);
        Due.is("thirty more", king.days(30), 60);
        Due.is("THE DAY", king.count(0), 9999);
        int x = king.count(6);
        for (int n : new int[] {1, 2, 30}) {
            Due.is("none goes by", king.days(n), 0);
            Due.is("THE DAY", king.count(0), 9999);
            Due.is("X", king.count(6), x);
            Due.is("THE WALK", king.walk(101), 2);
            Due.is("WEAR", king.count(7), 2 * 9999);
        }
        Due.is("no such n", king.days(31), -1);
        Due.is("keep()", king.keep(), 9999);
    }

    private static void lastDayTried() {
        BronzeKing king = Due.king("", "");
        Edges.letGo(king, 9998);
        Due.law(king, "c1(h=4);e1(1=1)");
        Due.is("one of two", king.tried(2, 0), 60);
        Due.is("one of thirty", king.tried(30, 1), 1);
        Due.is("its HOUR", king.tried(30, 3), 4);
        Due.is("one of two", king.days(2), 60);
        Due.is("THE DAY", king.count(0), 9999);
        int[] due = {0, 0, 0, -2};
        for (int n : new int[] {1, 30}) {
            for (int what = 0; what < 4; what++) {
                Due.is("none went by, what " + what, king.tried(n, what), due[what]);
            }
            Due.is("WEAR as it is", king.tried(n, 111), king.placeIs(11, 0, 1));
        }
        Due.is("no such ones", king.tried(31, 3), -1);
        Due.is("no such ones", king.tried(1, 4), -1);
    }

    /** "what 0 to 59 .., 100 the HOUR .. 103 how far at most; -2: he did not come down, no DAY has gone by". */
    private static void walkWhat() {
        BronzeKing down = goer();
        down.days(1);
        BronzeKing away = goer();
        away.days(1);
        Due.law(away, "c0(1=1)");
        away.days(1);
        BronzeKing fresh = goer();
        for (int what = -5; what <= 110; what++) {
            boolean isTaken = what >= 0 && what <= 59 || what >= 100 && what <= 103;
            Due.is("walk(" + what + ") is taken", down.walk(what) >= 0, isTaken);
            Due.is("walk(" + what + "), he did not come", away.walk(what), isTaken ? -2 : -1);
            Due.is("walk(" + what + "), no DAY", fresh.walk(what), isTaken ? -2 : -1);
        }
        for (int what : new int[] {Integer.MIN_VALUE, -156, 256, 356, 65536, Integer.MAX_VALUE}) {
            Due.is("walk(" + what + ")", down.walk(what), -1);
        }
    }

    /** "THE WALK of the last DAY". */
    private static void walkOfTheLastDayAlone() {
        BronzeKing king = Due.king("", "c1(h=d+7);e1(d=0|d=1&y=0&x<3);s(d=1&m>1)");
        king.door(1, 2, 0);
        king.door(2, 11, 1);
        king.days(1);
        Due.is("the first HOUR", king.walk(100), 7);
        Due.is("the first STEPS", king.walk(101), 60);
        Due.is("the first DOORS", king.walk(102), 6);
        king.days(1);
        Due.is("the HOUR", king.walk(100), 8);
        Due.is("STEPS", king.walk(101), 4);
        Due.is("DOORS", king.walk(102), 2);
        Due.is("how far", king.walk(103), 2);
        Due.is("where", king.walk(30), 2);
        king.days(1);
        Due.is("he stands", king.walk(101), 0);
        Due.is("no DOORS", king.walk(102), 0);
        Due.is("where", king.walk(30), 0);
        BronzeKing three = Due.king("", "c1(d<2);e1(d=0)");
        three.days(3);
        Due.is("of three DAYS the last", three.walk(101), -2);
    }

    private static void farthestOfTheDayAlone() {
        BronzeKing king = Due.king("", "c1(1=1);e1(d=0);s(d>0&m>9)");
        king.days(1);
        Due.is("far", king.walk(103), 12);
        king.days(1);
        Due.is("he stood on THE SQUARE", king.walk(103), 0);
        king.square(3, 3);
        Due.is("it was as it was", king.walk(103), 0);
    }

    /** "WORN: the PLACE most worn (of like ones the lowest Y, then X)"; "-2: nothing is". */
    private static void worn() {
        BronzeKing fresh = new BronzeKing();
        Due.is("nothing is", fresh.worn(), -2);
        fresh.days(30);
        Due.is("nothing is still", fresh.worn(), -2);
        int[][] pairs = {{95, 94}, {95, 83}, {0, 1}, {0, 12}, {13, 12}, {40, 28}};
        for (int[] pair : pairs) {
            BronzeKing king = Edges.kingAt(pair[0], Edges.only('#', pair), "c1(1=1);e1(1=1);s(m>0)");
            king.days(1);
            Due.is("each once, the lowest", king.worn(), Math.min(pair[0], pair[1]));
            Due.law(king, "c1(1=1);e1(1=1);s(m<59)");
            king.days(1);
            Due.is("one more", king.worn(), pair[1]);
        }
    }

    /** "TRIED are n DAYS by the DRAWS that will come (nothing is changed)". */
    private static void triedChangesNothing() {
        BronzeKing king = Due.king("", "c1(h<9);e9-w(1=1)");
        BronzeKing other = Due.king("", "c1(h<9);e9-w(1=1)");
        for (int i = 0; i < 4; i++) {
            int steps = king.tried(7, 0);
            int hour = king.tried(7, 3);
            int wear = king.tried(7, 101);
            Due.is("the same again", king.tried(7, 0), steps);
            Due.is("THE DAY", king.count(0), other.count(0));
            Due.is("X", king.count(6), other.count(6));
            Due.is("WEAR", king.count(7), other.count(7));
            Due.is("THE WALK", king.walk(17), other.walk(17));
            Due.is("as it then goes", king.days(7), steps);
            Due.is("as it then goes", king.walk(100), hour);
            Due.is("as it then goes", king.placeIs(1, 0, 1), wear);
            Due.is("as without", other.days(7), steps);
        }
    }
}
