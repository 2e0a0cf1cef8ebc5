/** Boundary cases of what THE LAW comes to: bounds, 32 bits, what is REFUSED, how much of a C is asked. */
public final class ReckonEdgesTest {
    private static final String LEAST = "[65536*32768]";
    private static final String MOST = "[65536*32768-1]";

    private ReckonEdgesTest() {
    }

    public static void main(String[] args) {
        boundsOfC();
        boundsOfE();
        thirtyTwoBits();
        dividing();
        fromTheLeftOn();
        comparisons();
        refusedC();
        refusedE();
        asMuchAsMatters();
        firstRuleThatHolds();
        lettersInC();
        lettersInCBehindADay();
        dayModuloSeven();
        hoursFromNaughtTo23();
        lettersOfAPlace();
        stepsToDoorNine();
        doorsCalledAt();
        everyMinute();
        theMostWear();
        anySWillDo();
        noSAtAll();
        Due.end();
    }

    private static void weighs(String value, int due) {
        BronzeKing king = Due.king("", "c" + value + "(1=1)");
        Due.is("c" + value, king.count(100), due);
        Due.is("all of c" + value, king.count(8), 24 * due);
    }

    private static void holds(String claim, boolean due) {
        Due.is("c1(" + claim + ")", Due.king("", "c1(" + claim + ")").count(105), due ? 1 : 0);
    }

    /** "a weight, 0 to 99 .. (beyond its bounds the bound; none: 0)". */
    private static void boundsOfC() {
        int[][] due = {{0, 0}, {1, 1}, {98, 98}, {99, 99}, {100, 99}, {101, 99}, {9999, 99}, {99999, 99}};
        for (int[] d : due) {
            weighs("" + d[0], d[1]);
        }
        weighs("0-1", 0);
        weighs("0-99", 0);
        weighs("0-99999", 0);
        weighs(LEAST, 0);
        weighs(MOST, 99);
        Due.is("none holds", Due.king("", "c5(1=2);c6(h>23)").count(8), 0);
        Due.is("no c", Due.king("", "e5(1=1)").count(8), 0);
        Due.is("the most in all", Due.king("", "c99(1=1)").count(8), 2376);
    }

    /** Whether he goes right (0, 0 to 1, 0) rather than down, by the e of each. */
    private static int firstStep(String right, String down) {
        BronzeKing king = Due.king("", "c1(1=1);e" + right + "(x=1&y=0);e" + down + "(x=0&y=1);s(m>0)");
        Due.is("a DAY", king.days(1) >= 0, true);
        return king.walk(0);
    }

    /** "how he likes a PLACE (0 to 9999)"; "the greatest e above 0 (of like ones the first ..)". */
    private static void boundsOfE() {
        Due.is("9998 and 9999", firstStep("9998", "9999"), 12);
        Due.is("9999 and 9998", firstStep("9999", "9998"), 1);
        Due.is("9999 and 10000 are alike", firstStep("9999", "10000"), 1);
        Due.is("9998 and 10000", firstStep("9998", "10000"), 12);
        Due.is("10000 and 99999 are alike", firstStep("10000", "99999"), 1);
        Due.is("0 and 1", firstStep("0", "1"), 12);
        Due.is("1 and 1", firstStep("1", "1"), 1);
        Due.is("1 and 2", firstStep("1", "2"), 12);
        Due.is("0 and 0: he stands", firstStep("0", "0"), 0);
        Due.is("below 0: he stands", firstStep("0-1", LEAST), 0);
        Due.is("below 0 and 1", firstStep("0-5", "1"), 12);
        Due.is("the most and 9999", firstStep(MOST, "9999"), 1);
        Due.is("beyond 32 bits it is below 0", firstStep(MOST + "+1", "1"), 12);
    }

    /** "All is reckoned with 32 bits, as the machine does". */
    private static void thirtyTwoBits() {
        holds(LEAST + "<0", true);
        holds(MOST + ">0", true);
        holds(MOST + "+1=" + LEAST, true);
        holds(LEAST + "-1=" + MOST, true);
        holds("65536*65536=0", true);
        holds("0-" + LEAST + "=" + LEAST, true);
        holds("99999*99999=14098*[99999+1]+65409", true);
        holds(LEAST + "*" + LEAST + "=0", true);
        holds(MOST + "*" + MOST + "=1", true);
        holds(MOST + ">" + LEAST, true);
        holds(LEAST + "<" + MOST, true);
        holds(LEAST + "-1<0", false);
        weighs("5+65536*65536", 5);
    }

    /** Dividing goes towards 0, and the least by -1 is the least again. */
    private static void dividing() {
        holds(LEAST + "/[0-1]=" + LEAST, true);
        holds(LEAST + "%[0-1]=0", true);
        holds("[0-7]/2=0-3", true);
        holds("[0-7]%2=0-1", true);
        holds("7/[0-2]=0-3", true);
        holds("7%[0-2]=1", true);
        holds("7/1=7", true);
        holds("7%1=0", true);
        holds("0/7=0", true);
        holds("0%7=0", true);
        holds("6/7=0", true);
        holds("6%7=6", true);
        holds(MOST + "/" + MOST + "=1", true);
        holds(LEAST + "/" + LEAST + "=1", true);
    }

    /** "from the left on". */
    private static void fromTheLeftOn() {
        weighs("9-5-3", 1);
        weighs("9-5+3", 7);
        weighs("8/4/2", 1);
        weighs("8/4*2", 4);
        weighs("8*4/3", 10);
        weighs("9%5*3", 12);
        weighs("9*5%7", 3);
        weighs("20/3%4", 2);
        weighs("20%7/2", 3);
        weighs("2+3*4", 14);
        weighs("2*3+4", 10);
        weighs("[2+3]*4", 20);
        weighs("20-[9-5]", 16);
        weighs("1+2*3%4-1", 2);
    }

    private static void comparisons() {
        String[] claims = {"4<5", "5<5", "6<5", "4>5", "5>5", "6>5", "4=5", "5=5", "6=5", "0-1<0", "0>0-1", "0-1=0"};
        boolean[] due = {true, false, false, false, false, true, false, true, false, true, true, false};
        for (int i = 0; i < claims.length; i++) {
            holds(claims[i], due[i]);
            holds("!" + claims[i], !due[i]);
            holds("!!" + claims[i], due[i]);
            holds("(" + claims[i] + ")", due[i]);
            holds("!(" + claims[i] + ")", !due[i]);
            holds(claims[i] + "&1=1", due[i]);
            holds(claims[i] + "|1=2", due[i]);
        }
    }

    /** "what is divided by 0 is REFUSED: then the whole C of the RULE does not hold". */
    private static void refusedC() {
        String[] claims = {"1/0=0", "1%0=0", "0/0=0", "0%0=0", "0=1/0", "0=1%0", "!1/0=0", "!!1/0=0", "!(1/0=0)",
            "1/0=0|1=1", "1=2|1/0=0|1=1", "1=1&1/0=0", "!(1=1&1/0=0)", "!(1=2|1%0=1)", "1=1&1/0=0|1=1",
            "(1/0=0)|1=1", "[1/0]*0=0", "1/[h-h]=0", "1%[5-5]=0", "0*[1/0]<1", "1/[0/5]=1"};
        for (String claim : claims) {
            holds(claim, false);
            Due.is("the next RULE", Due.king("", "c5(" + claim + ");c7(1=1)").count(100), 7);
            BronzeKing still = Due.king("", "c1(1=1);e1(1=1);s(" + claim + ")");
            Due.is("an s that is REFUSED does not hold", still.days(1), 60);
        }
    }

    /** ".. the E of it is 0": the RULE holds all the same, so no other one is asked. */
    private static void refusedE() {
        String[] values = {"5/0", "5%0", "9+5/0", "5/0*0+7", "7-5%[h-h]", "[1/0]", "99/[0*7]"};
        for (String value : values) {
            weighs(value, 0);
            Due.is("the next RULE is not asked", Due.king("", "c" + value + "(1=1);c7(1=1)").count(100), 0);
            Due.is("a C that does not hold", Due.king("", "c" + value + "(1=2);c7(1=1)").count(100), 7);
            Due.is("an e", firstStep(value, "1"), 12);
        }
        Due.is("in one HOUR alone", Due.king("", "c12/[h-3](1=1)").count(103), 0);
        Due.is("in the next", Due.king("", "c12/[h-3](1=1)").count(104), 12);
        Due.is("in the one ahead it is below 0", Due.king("", "c12/[h-3](1=1)").count(102), 0);
    }

    /** "Of a C as much is asked, from the left, as matters." */
    private static void asMuchAsMatters() {
        String[] claims = {"1=1|1/0=0", "!(1=2&1/0=0)", "1=2&1/0=0|1=1", "(1=1|1/0=0)&1=1", "1=1|1=2&1/0=0",
            "1=2|1=1|1/0=0", "!(1=2&1/0=0|1=2)", "(1=2&1/0=0)|(1=1|1/0=0)", "1=2&1=1&1/0=0|2=2",
            "!(!(1=1|1/0=0))", "1=1&1=1|1/0=0", "1=2&(1=1|1/0=0)|1=1", "1=2&!1/0=0|1=1"};
        for (String claim : claims) {
            holds(claim, true);
        }
        holds("1=2&1/0=0", false);
        holds("1=2&1/0=0|1=2", false);
        holds("h=5|1/[h-5]=9", true);
        holds("h=4|1/[h-5]=9", false);
    }

    /** "of the first RULE of c, e whose C holds the E". */
    private static void firstRuleThatHolds() {
        BronzeKing king = Due.king("", "e9(1=1);c1(h=2);c2(h<4);s(1=1);c3(h<6);c4(h=2)");
        int[] due = {2, 2, 1, 2, 3, 3, 0};
        for (int hour = 0; hour < due.length; hour++) {
            Due.is("HOUR " + hour, king.count(100 + hour), due[hour]);
        }
        Due.is("an E of 0 is taken, too", Due.king("", "c0(h=2);c7(1=1)").count(102), 0);
        Due.is("an e of 0 is taken, too", firstStep("0", "3"), 12);
    }

    /** "m to v in c 0". */
    private static void lettersInC() {
        for (char letter : "mxywnbv".toCharArray()) {
            BronzeKing king = Edges.kingAt(40, "", "c" + letter + "+3(" + letter + "=0)");
            king.door(9, 9, 7);
            for (int hour = 0; hour < 24; hour++) {
                Due.is(letter + " in c, HOUR " + hour, king.count(100 + hour), 3);
            }
        }
    }

    private static void lettersInCBehindADay() {
        for (char letter : "mxywnbv".toCharArray()) {
            BronzeKing king = Edges.kingAt(40, "", "c" + letter + "+3(" + letter + "=0);e1(1=1)");
            king.door(9, 9, 7);
            king.door(1, 3, 3);
            king.door(2, 4, 2);
            king.days(1);
            Due.is("he came down", king.walk(100) >= 0, true);
            Due.is(letter + " in c behind a DAY", king.count(123), 3);
            Due.is(letter + " in all", king.count(8), 72);
            Due.is("tried", king.tried(2, 1), 2);
            Due.is("likely", king.likely(4, 1), 24);
        }
    }

    /** "d THE DAY modulo 7". */
    private static void dayModuloSeven() {
        BronzeKing king = Due.king("", "cd+1(h=23)");
        for (int day = 0; day < 23; day++) {
            Due.is("THE DAY " + day, king.count(123), day % 7 + 1);
            king.days(1);
        }
        Edges.letGo(king, 9998 - 23);
        Due.is("THE DAY 9998", king.count(123), 9998 % 7 + 1);
        king.days(1);
        Due.is("THE DAY 9999", king.count(123), 9999 % 7 + 1);
        BronzeKing inTheHour = Due.king("", "c1(1=1);e1(d=0&y=0|d=6&x=0);s(m>0)");
        int[] first = {1, 0, 0, 0, 0, 0, 12, 1};
        for (int day = 0; day < 8; day++) {
            inTheHour.days(1);
            Due.is("by d on THE DAY " + day, inTheHour.walk(0), first[day]);
        }
    }

    /** "h the HOUR", 0 to 23 and no other. */
    private static void hoursFromNaughtTo23() {
        BronzeKing king = Due.king("", "ch+1(1=1)");
        for (int hour = 0; hour < 24; hour++) {
            Due.is("h in HOUR " + hour, king.count(100 + hour), hour + 1);
        }
        Due.is("all", king.count(8), 300);
        Due.is("none below 0", Due.king("", "c1(h<0)").count(8), 0);
        Due.is("none above 23", Due.king("", "c1(h>23)").count(8), 0);
        Due.is("up to 4", Due.king("", "c1(h<5)").count(8), 5);
        Due.is("from 19 on", Due.king("", "c1(h>18)").count(8), 5);
    }

    /** "x, y the PLACE (to which; in s where he is)", from 0, 0 to 11, 7; "b how many to THE SQUARE". */
    private static void lettersOfAPlace() {
        int[][] pairs = {{94, 95}, {83, 95}, {1, 0}, {12, 0}, {10, 11}, {85, 84}, {40, 41}};
        for (int[] pair : pairs) {
            int x = pair[1] % 12;
            int y = pair[1] / 12;
            String there = "(x=" + x + "&y=" + y + "&b=1&w=0)";
            BronzeKing king = Edges.kingAt(pair[0], "", "c1(1=1);e1" + there + ";s(b=1&m>1)");
            Due.is("there and back", king.days(1), 2);
            Due.is("to " + pair[1], king.walk(0), pair[1]);
            String here = "x=" + pair[0] % 12 + "&y=" + pair[0] / 12 + "&b=0&w=0";
            Due.is("in s where he is", Edges.kingAt(pair[0], "", "c1(1=1);e1(1=1);s(" + here + ")").days(1), 0);
        }
    }

    /** "n how many STEPS it is from there to DOOR 9 (99: no way, not told)". */
    private static void stepsToDoorNine() {
        String law = "c1(1=1);e1(n=99);s(m>0)";
        BronzeKing notTold = Due.king("", law);
        notTold.door(8, 1, 0);
        Due.is("not told", notTold.days(1), 2);
        BronzeKing noWay = Due.king(Edges.only('#', 0, 1, 95), law);
        noWay.door(9, 11, 7);
        Due.is("no way", noWay.days(1), 2);
        BronzeKing onAWall = Due.king(Edges.only('+', 0, 1), law);
        onAWall.door(9, 2, 0);
        Due.is("on a wall", onAWall.days(1), 2);
        BronzeKing there = Due.king("", "c1(1=1);e1(n=0);s(n=0|m=59)");
        there.door(9, 0, 1);
        Due.is("one STEP off, and there", there.days(1), 2);
        Due.is("there he stands", there.walk(57), 12);
        there.square(11, 7);
        Due.law(there, "c1(1=1);e1(n=16&x=10);s(n=16|m=59)");
        Due.is("from the far corner", there.days(1), 2);
    }

    /** "v how many DOORS he has called at on THE DAY", 0 to 9. */
    private static void doorsCalledAt() {
        for (int many = 0; many <= 9; many++) {
            BronzeKing king = Due.king("", "c1(1=1);e1(v=0);s(v=" + many + "&m>0)");
            for (int k = 1; k <= many; k++) {
                king.door(k, 1, 0);
            }
            Due.is("v of " + many, king.days(2), 4);
            Due.is("there he stood", king.walk(57), 1);
        }
    }

    /** "m the MINUTE (0 to 59)". */
    private static void everyMinute() {
        for (int minute = 0; minute < 59; minute++) {
            BronzeKing king = Due.king("", "c1(1=1);e1(m=" + minute + ")");
            Due.is("one STEP in MINUTE " + minute + " and one back", king.days(1), 2);
            Due.is("ahead of it", minute == 0 ? 0 : king.walk(minute - 1), 0);
            Due.is("in it", king.walk(minute), 1);
        }
        Due.is("no MINUTE 60", Due.king("", "c1(1=1);e1(m>59|m<0)").days(1), 0);
    }

    /** "w its WEAR", 9999 at most. */
    private static void theMostWear() {
        BronzeKing king = Due.king(Edges.only('#', 0, 1), "c1(1=1);e1(1=1)");
        Edges.letGo(king, 333);
        Due.law(king, "c1(1=1);e1(w>9989&w<9999)");
        Due.is("nine times there and back", king.days(1), 18);
        Due.is("as much as there may be", king.count(7), 2 * 9999);
        Due.law(king, "c1(1=1);e1(w=9999);s(w<9999)");
        Due.is("a DAY on it", king.days(1), 60);
        Due.law(king, "c1(1=1);e1(w>9999)");
        Due.is("none above it", king.days(1), 0);
    }

    /** "s he stands still in a MINUTE (any will do ..)". */
    private static void anySWillDo() {
        for (int at = 0; at < 3; at++) {
            String[] rules = {"s(1=2)", "s(1=2)", "s(1=2)"};
            rules[at] = "s(1=1)";
            Due.is("s at " + at, Due.king("", "c1(1=1);e1(1=1);" + String.join(";", rules)).days(1), 0);
        }
        Due.is("none holds", Due.king("", "c1(1=1);e1(1=1);s(1=2);s(m>59);s(m<0)").days(1), 60);
        Due.is("MINUTE 59", Due.king("", "c1(1=1);e1(1=1);s(m=59)").days(1), 60);
        Due.is("MINUTES up to 57", Due.king("", "c1(1=1);e1(1=1);s(m<58)").days(1), 2);
        Due.is("from MINUTE 1 on", Due.king("", "c1(1=1);e1(1=1);s(m>0)").days(1), 2);
    }

    /** "without an s in THE LAW he never does by it". */
    private static void noSAtAll() {
        BronzeKing king = Due.king("", "c1(1=1);e1(1=1)");
        Due.is("a STEP each MINUTE", king.days(3), 180);
        Due.is("none to like", Due.king("", "c1(1=1)").days(1), 0);
    }
}
