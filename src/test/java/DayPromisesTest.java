/** Promises 8 to 15: DAYS, what is tried, PLACES, what is likely and where he was. */
public final class DayPromisesTest {
    private static final String TWO_PLACES = "2.9##/9#3#/9#3#/9#3#/9#3#/9#3#/9#3#/9#3#";

    private DayPromisesTest() {
    }

    public static void main(String[] args) {
        aDayInTheOpen();
        homeIsFirst();
        standingStill();
        likes();
        letters();
        draws();
        noDay();
        manyDays();
        lastDay();
        tried();
        placeIs();
        likely();
        watch();
        sure();
        walk();
        worn();
        Due.end();
    }

    private static void wrongDays(BronzeKing king) {
        for (int n : new int[] {0, -1, 31, Integer.MIN_VALUE, Integer.MAX_VALUE}) {
            Due.is("days(" + n + ")", king.days(n), -1);
            Due.is("tried(" + n + ", 0)", king.tried(n, 0), -1);
        }
    }

    /** He likes all PLACES alike: right along the upper edge, up and down in the corner, and back. */
    private static void aDayInTheOpen() {
        BronzeKing king = Due.king("", "c1(h=5);e1(1=1)");
        king.door(3, 11, 1);
        king.door(4, 11, 2);
        king.door(5, 0, 0);
        king.door(6, 11, 1);
        Due.is("days(1)", king.days(1), 60);
        for (int minute = 0; minute < 60; minute++) {
            int at = minute < 11 ? minute + 1 : minute < 49 ? (minute % 2 == 0 ? 11 : 23) : 59 - minute;
            Due.is("walk(" + minute + ")", king.walk(minute), at);
        }
        Due.is("HOUR", king.walk(100), 5);
        Due.is("STEPS", king.walk(101), 60);
        Due.is("DOORS", king.walk(102), 1 << 3 | 1 << 5 | 1 << 6);
        Due.is("how far", king.walk(103), 12);
        Due.is("THE DAY", king.count(0), 1);
        Due.is("X", king.count(6), 39022);
        Due.is("WEAR of THE SQUARE", king.placeIs(0, 0, 1), 1);
        Due.is("WEAR on the way", king.placeIs(5, 0, 1), 2);
        Due.is("WEAR of the corner", king.placeIs(11, 0, 1), 20);
        Due.is("WEAR below it", king.placeIs(11, 1, 1), 19);
        Due.is("WEAR of all", king.count(7), 60);
        wrongDays(king);
        Due.is("THE DAY still", king.count(0), 1);
    }

    /** Of two shortest ways home the one that starts up, right, down, left first. */
    private static void homeIsFirst() {
        BronzeKing king = Due.king("", "c1(1=1);e1(y>0);e1(x=5);s(m>4)");
        king.square(5, 4);
        Due.is("days(1)", king.days(1), 8);
        int[] at = {41, 29, 17, 5, 17};
        for (int minute = 0; minute < 5; minute++) {
            Due.is("walk(" + minute + ")", king.walk(minute), at[minute]);
        }
        Due.is("stands till the time is come", king.walk(55), 17);
        Due.is("the first STEP home", king.walk(56), 29);
        Due.is("home", king.walk(58), 53);

        BronzeKing corner = Due.king("", "c1(1=1);e2(m=0&x=1);e2(m=1&y=1);s(m>1)");
        Due.is("days(1)", corner.days(1), 4);
        Due.is("walk(57), he stood at 1, 1", corner.walk(56), 13);
        Due.is("up comes first", corner.walk(57), 1);
        corner.square(2, 1);
        Due.law(corner, "c1(1=1);e2(m=0&x=1);e2(m=1&y=0);s(m>1)");
        Due.is("days(1)", corner.days(1), 4);
        Due.is("he stood at 1, 0", corner.walk(56), 1);
        Due.is("right comes ahead of down", corner.walk(57), 2);
    }

    private static void standingStill() {
        BronzeKing still = Due.king("", "c1(1=1);s(1=1);e1(1=1)");
        Due.is("he stands all the hour", still.days(1), 0);
        Due.is("he was down", still.walk(100) >= 0, true);
        Due.is("no WEAR", still.count(7), 0);
        Due.is("how far", still.walk(103), 0);
        // As the words say it: on THE SQUARE nothing calls him back, not in the last MINUTE either.
        BronzeKing late = Due.king("", "c1(1=1);e1(1=1);s(m<59)");
        Due.is("one STEP", late.days(1), 1);
        Due.is("walk(58)", late.walk(58), 0);
        Due.is("walk(59)", late.walk(59), 1);
        BronzeKing any = Due.king("", "c1(1=1);e1(1=1);s(m>10);s(m<10)");
        Due.is("any s will do", any.days(1), 2);
        Due.is("walk(9)", any.walk(9), 0);
        Due.is("walk(10)", any.walk(10), 1);
        BronzeKing ahead = Due.king("", "s(m>0);e1(1=1);c1(h=0)");
        Due.is("an s ahead of the others", ahead.days(1), 2);
        Due.is("HOUR 0", ahead.walk(100), 0);
        Due.is("he came in HOUR 0", ahead.tried(2, 1), 2);
        Due.is("WEAR of THE SQUARE", ahead.tried(2, 100), 3);
        Due.is("the first PLACE", ahead.worn(), 0);
        BronzeKing where = Due.king("", "c1(1=1);e1(y=0);s(x=3|m=59)");
        Due.is("in s it is where he is", where.days(1), 6);
        Due.is("how far", where.walk(103), 3);
        BronzeKing refused = Due.king("", "c1(1=1);e1(y=0);s(1/x=1);s(m=59)");
        Due.is("REFUSED on THE SQUARE, so he goes", refused.days(1), 2);
    }

    private static void likes() {
        BronzeKing none = Due.king("", "c1(1=1);e0(1=1)");
        Due.is("none above 0", none.days(1), 0);
        BronzeKing down = Due.king("", "c1(1=1);ex+2*y(1=1);s(m>1)");
        Due.is("the greatest e", down.days(1), 4);
        Due.is("down", down.walk(0), 12);
        Due.is("down again", down.walk(1), 24);
        BronzeKing bound = Due.king("", "c1(1=1);e9999(x=1&y=0);e99999(y=1);s(m>0)");
        Due.is("beyond 9999 is 9999", bound.days(1), 2);
        Due.is("so the first of like ones", bound.walk(0), 1);
        BronzeKing below = Due.king("", "c1(1=1);e0-3(x=1&y=0);e1(y=1);s(m>0)");
        Due.is("below 0 is 0", below.days(1), 2);
        Due.is("down", below.walk(0), 12);
        BronzeKing refused = Due.king("", "c1(1=1);e9/[x-1](x=1);e1(y=3);s(m>0)");
        refused.square(2, 2);
        refused.days(1);
        Due.is("a REFUSED e is 0", refused.walk(0), 38);
        BronzeKing walled = Due.king(".+/#", "c1(1=1);e1(1=1)");
        Due.is("walled in", walled.days(1), 0);
    }

    private static void letters() {
        BronzeKing wear = Due.king("", "c1(1=1);e9-w(y=0&x<3);s(m>9)");
        wear.days(1);
        int[] at = {1, 2, 1, 0, 1, 2, 1, 0, 1, 2};
        for (int minute = 0; minute < 10; minute++) {
            Due.is("by w, walk(" + minute + ")", wear.walk(minute), at[minute]);
        }
        BronzeKing nine = Due.king("3.#/#+.#/3.#/4#", "c1(1=1);e50-n(1=1);s(n=0)");
        nine.door(9, 0, 2);
        nine.days(1);
        Due.is("by n", nine.walk(5), 24);
        Due.is("there he stands", nine.walk(52), 24);
        Due.is("DOOR 9", nine.walk(102), 512);
        Due.is("how far", nine.walk(103), 6);
        BronzeKing home = Due.king("", "c1(1=1);eb(1=1)");
        home.days(1);
        Due.is("by b", home.walk(103) > 15, true);
        BronzeKing called = Due.king("", "c1(1=1);e1(v=0&y=0);e1(v=1&x=2&w=0);s(v=2)");
        called.door(1, 2, 0);
        called.door(2, 2, 3);
        Due.is("by v", called.days(1), 10);
        Due.is("there he stands", called.walk(10), 38);
        BronzeKing hour = Due.king("", "c1(h=7);e1(h=7&d=0);e1(d=1&y>0);s(m>0)");
        Due.is("by h", hour.days(1), 2);
        Due.is("right", hour.walk(0), 1);
        Due.is("by d", hour.days(1), 2);
        Due.is("down", hour.walk(0), 12);
    }

    private static void draws() {
        BronzeKing king = Due.king("", "c1(h=3);c2(h=8);c3(h=20)");
        int x = 1;
        for (int day = 0; day < 40; day++) {
            x = (25173 * x + 13849) % 65536;
            int draw = x % 6;
            king.days(1);
            Due.is("X on day " + day, king.count(6), x);
            Due.is("HOUR on day " + day, king.walk(100), draw < 1 ? 3 : draw < 3 ? 8 : 20);
        }
        Due.is("seed(0)", king.seed(0), true);
        king.days(1);
        Due.is("X behind seed 0", king.count(6), 13849);
    }

    private static void noDay() {
        BronzeKing king = Due.king("", "c1(d=0);e1(1=1)");
        king.days(1);
        Due.is("he came", king.walk(100) >= 0, true);
        int x = king.count(6);
        Due.is("none of c", king.days(1), 0);
        Due.is("THE DAY", king.count(0), 2);
        Due.is("no DRAW", king.count(6), x);
        for (int what : new int[] {0, 59, 100, 101, 102, 103}) {
            Due.is("walk(" + what + ")", king.walk(what), -2);
        }
    }

    private static void manyDays() {
        BronzeKing king = Due.king(TWO_PLACES, "c1(1=1);e1(1=1)");
        for (int i = 0; i < 11; i++) {
            Due.is("days(30)", king.days(30), 1800);
        }
        Due.is("WEAR", king.placeIs(0, 0, 1), 9900);
        Due.is("days(3)", king.days(3), 180);
        Due.is("WEAR", king.placeIs(0, 0, 1), 9990);
        Due.is("tried, too", king.tried(1, 101), 9999);
        Due.is("days(30)", king.days(30), 1800);
        Due.is("WEAR, 9999 at most", king.count(7), 2 * 9999);
        Due.is("THE DAY", king.count(0), 363);
    }

    private static void lastDay() {
        BronzeKing king = Due.king("", "");
        for (int i = 0; i < 333; i++) {
            king.days(30);
        }
        Due.is("THE DAY", king.count(0), 9990);
        Due.law(king, "c1(h=2);e1(1=1)");
        Due.is("tried(30, 1)", king.tried(30, 1), 9);
        Due.is("tried(30, 3)", king.tried(30, 3), 2);
        Due.is("days(30)", king.days(30), 9 * 60);
        Due.is("THE DAY", king.count(0), 9999);
        int x = king.count(6);
        Due.is("days(1)", king.days(1), 0);
        Due.is("THE DAY still", king.count(0), 9999);
        Due.is("X still", king.count(6), x);
        Due.is("THE WALK still", king.walk(100), 2);
        int[] answers = {0, 0, 0, -2};
        for (int what = 0; what < 4; what++) {
            Due.is("tried(1, " + what + ")", king.tried(1, what), answers[what]);
        }
        Due.is("tried(1, 101)", king.tried(1, 101), king.placeIs(1, 0, 1));
    }

    private static void tried() {
        BronzeKing king = Due.king("", "c1(h=4&d<2);e1(y=0&x<3);s(m>1)");
        king.door(1, 1, 0);
        king.door(2, 2, 0);
        king.door(3, 3, 0);
        Due.is("steps of one", king.tried(1, 0), 4);
        Due.is("steps of nine days, four of them", king.tried(9, 0), 16);
        Due.is("he came", king.tried(9, 1), 4);
        Due.is("DOORS", king.tried(9, 2), 8);
        Due.is("the HOUR of the last", king.tried(9, 3), 4);
        Due.is("he did not come on the third", king.tried(3, 3), -2);
        Due.is("WEAR", king.tried(9, 101), 8);
        Due.is("WEAR of the last PLACE", king.tried(9, 195), 0);
        for (int what : new int[] {-1, 4, 99, 196, Integer.MAX_VALUE, Integer.MIN_VALUE}) {
            Due.is("tried(1, " + what + ")", king.tried(1, what), -1);
        }
        Due.is("nothing is changed", king.count(0) + king.count(7), 0);
        Due.is("X neither", king.count(6), 1);
        Due.is("THE WALK neither", king.walk(100), -2);
        Due.is("as it then goes", king.days(9), 16);
        Due.is("WEAR then", king.placeIs(1, 0, 1), 8);
    }

    private static void placeIs() {
        BronzeKing king = Due.king(".#.+/4./9#3#", "");
        king.door(9, 2, 0);
        int[] kinds = {2, 0, 2, 1, 2};
        int[] steps = {0, 99, 4, 99, 6};
        int[] beside = {1, 3, 1, 3, 2};
        for (int x = 0; x < 5; x++) {
            Due.is("kind of " + x, king.placeIs(x, 0, 0), kinds[x]);
            Due.is("STEPS to " + x, king.placeIs(x, 0, 2), steps[x]);
            Due.is("neighbours of " + x, king.placeIs(x, 0, 4), beside[x]);
        }
        Due.is("n", king.placeIs(0, 0, 3), 4);
        Due.is("n there", king.placeIs(2, 0, 3), 0);
        Due.is("cut off", king.placeIs(0, 3, 2), 99);
        Due.is("n of what is cut off", king.placeIs(0, 3, 3), 99);
        int[][] wrong = {{-1, 0, 0}, {12, 0, 0}, {0, -1, 0}, {0, 8, 0}, {0, 0, -1}, {0, 0, 5}};
        for (int[] w : wrong) {
            Due.is("placeIs of wrong ones", king.placeIs(w[0], w[1], w[2]), -1);
        }
    }

    private static void likely() {
        BronzeKing king = Due.king("", "c6(h=3);c4(h=4);c2(h=5);c12(h=6)");
        Due.is("6 of 24", king.likely(3, 0), 1);
        Due.is("6 of 24", king.likely(3, 1), 4);
        Due.is("nothing", king.likely(0, 0), 0);
        Due.is("of one", king.likely(0, 1), 1);
        Due.notes(king, "6-");
        Due.is("6 of 12", king.likely(3, 1), 2);
        Due.is("WATCHED", king.likely(6, 0), -2);
        Due.notes(king, "4:5-");
        Due.is("6 of 6", king.likely(3, 0), 1);
        Due.is("6 of 6", king.likely(3, 1), 1);
        Due.notes(king, "3-");
        Due.is("nothing left", king.likely(0, 0), -2);
        Due.is("no law", new BronzeKing().likely(0, 0), -2);
        int[][] wrong = {{-1, 0}, {24, 0}, {0, -1}, {0, 2}};
        for (int[] w : wrong) {
            Due.is("likely of wrong ones", king.likely(w[0], w[1]), -1);
        }
        BronzeKing today = Due.king("", "c5(h=d);c1(1=1)");
        Due.is("today", today.likely(0, 0), 5);
        today.days(1);
        Due.is("the next day", today.likely(0, 0), 1);
        Due.is("the next day", today.likely(1, 0), 5);
    }

    private static void watch() {
        BronzeKing king = Due.king("", "c6(h=3);c4(h=4);c4(h=9);c4(h=1);c12(h=6);c2(h=0)");
        int[] bits = {1 << 6, 1 << 6 | 1 << 3, 1 << 6 | 1 << 3 | 1 << 1, 0x5A, 0x25A, 0x25B};
        int[] above = {3, 9, 11, 13, 15, 1};
        int[] below = {8, 16, 16, 16, 16, 1};
        for (int k = 1; k <= 6; k++) {
            Due.is("watch(" + k + ", 0)", king.watch(k, 0), bits[k - 1]);
            Due.is("watch(" + k + ", 1)", king.watch(k, 1), above[k - 1]);
            Due.is("watch(" + k + ", 2)", king.watch(k, 2), below[k - 1]);
        }
        Due.notes(king, "6-;3-");
        Due.is("not WATCHED ones", king.watch(2, 0), 1 << 1 | 1 << 4);
        Due.is("4 and 4 of 14", king.watch(2, 1) * 10 + king.watch(2, 2), 47);
        Due.is("also such as weigh nothing", king.watch(5, 0), 0x217);
        Due.notes(king, "0:23-;4?;5?");
        Due.is("two are left", king.watch(2, 0), 3 << 4);
        Due.is("fewer are left", king.watch(3, 0), -2);
        Due.notes(king, "4-");
        Due.is("that weighs nothing", king.watch(1, 1), -2);
        int[][] wrong = {{0, 0}, {7, 0}, {-1, 0}, {1, -1}, {1, 3}};
        for (int[] w : wrong) {
            Due.is("watch of wrong ones", king.watch(w[0], w[1]), -1);
        }
    }

    private static void sure() {
        BronzeKing king = Due.king("", "c50(h=3);c30(h=4);c19(h=5);c1(h=6)");
        int[][] due = {{1, 1}, {50, 1}, {51, 2}, {80, 2}, {81, 3}, {99, 3}, {100, 4}};
        for (int[] d : due) {
            Due.is("sure(" + d[0] + ")", king.sure(d[0]), d[1]);
        }
        Due.notes(king, "3-");
        Due.is("30 of 50", king.sure(60), 1);
        Due.is("30 of 50", king.sure(61), 2);
        for (int n : new int[] {0, -1, 101, Integer.MAX_VALUE}) {
            Due.is("sure(" + n + ")", king.sure(n), -1);
        }
        Due.notes(king, "3:6-");
        Due.is("nothing left", king.sure(1), -2);
        Due.is("all alike", Due.king("", "c1(1=1)").sure(100), 24);
        Due.is("all but a little", Due.king("", "c99(h<6);c1(h=9)").sure(100), 7);
    }

    private static void walk() {
        BronzeKing king = new BronzeKing();
        Due.is("no DAY yet", king.walk(0), -2);
        Due.law(king, "c1(h=23);e1(y=0);s(x=2)");
        king.days(1);
        for (int what : new int[] {-1, 60, 99, 104, Integer.MAX_VALUE, Integer.MIN_VALUE}) {
            Due.is("walk(" + what + ")", king.walk(what), -1);
        }
        Due.is("HOUR", king.walk(100), 23);
        king.square(11, 7);
        Due.map(king, "9#");
        Due.is("it was as it was", king.walk(103), 2);
        Due.is("it was where it was", king.walk(30), 2);
    }

    private static void worn() {
        BronzeKing king = Due.king("", "c1(1=1);e1(y=0);s(x=2)");
        Due.is("nothing is", king.worn(), -2);
        king.days(1);
        Due.is("1, 0 twice", king.worn(), 1);
        BronzeKing like = Due.king("", "c1(1=1);e1(x=5);s(m>0)");
        like.square(5, 5);
        like.days(1);
        Due.is("of like ones the lowest", like.worn(), 53);
        Due.is("each once", like.placeIs(5, 5, 1), 1);
    }
}
