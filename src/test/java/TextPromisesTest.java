/** Promises 1 to 7: a new object, what the town is told, and the texts with their FAULTS. */
public final class TextPromisesTest {
    private TextPromisesTest() {
    }

    public static void main(String[] args) {
        newObject();
        square();
        door();
        feed();
        lawsThatCanStand();
        lawFaults();
        lawDepth();
        lawOnTheTape();
        lawReckons();
        lawRefuses();
        maps();
        mapFaults();
        notes();
        noteFaults();
        Due.end();
    }

    private static void newObject() {
        BronzeKing king = new BronzeKing();
        int[] counts = {0, 0, 0, 0, 0, 0, 1, 0, 0};
        for (int what = 0; what < counts.length; what++) {
            Due.is("new count(" + what + ")", king.count(what), counts[what]);
        }
        for (int place = 0; place < 96; place++) {
            int x = place % 12;
            int y = place / 12;
            Due.is("new placeIs 0", king.placeIs(x, y, 0), 2);
            Due.is("new placeIs 1", king.placeIs(x, y, 1), 0);
            Due.is("new placeIs 2", king.placeIs(x, y, 2), x + y);
            Due.is("new placeIs 3", king.placeIs(x, y, 3), 99);
        }
        Due.is("new walk(100)", king.walk(100), -2);
        Due.is("new worn()", king.worn(), -2);
        Due.is("new undo()", king.undo(), false);
        Due.is("NONE", BronzeKing.NONE, -1);
    }

    private static void square() {
        BronzeKing king = Due.king(".#", "");
        Due.is("square(11, 7)", king.square(11, 7), true);
        Due.is("count(3)", king.count(3), 95);
        Due.is("steps from it", king.placeIs(0, 0, 2), 18);
        int[][] wrong = {{-1, 0}, {12, 0}, {0, -1}, {0, 8}, {Integer.MAX_VALUE, 0}, {0, Integer.MIN_VALUE}};
        for (int[] at : wrong) {
            Due.is("square(" + at[0] + ", " + at[1] + ")", king.square(at[0], at[1]), false);
        }
        Due.is("count(3) after wrong ones", king.count(3), 95);
        Due.is("a wall", king.placeIs(1, 0, 0), 0);
        Due.is("square(1, 0)", king.square(1, 0), true);
        Due.is("THE SQUARE is open on a wall", king.placeIs(1, 0, 0), 2);
        Due.is("one can step from it", king.placeIs(2, 0, 2), 1);
        Due.is("square(0, 0)", king.square(0, 0), true);
        Due.is("the wall is there again", king.placeIs(1, 0, 0), 0);
    }

    private static void door() {
        BronzeKing king = new BronzeKing();
        int[][] wrong = {{0, 0, 0}, {10, 0, 0}, {1, 12, 0}, {1, 0, 8}, {1, -1, 0}, {1, 0, -1}, {-1, 3, 3}};
        for (int[] d : wrong) {
            Due.is("door(" + d[0] + ", ..)", king.door(d[0], d[1], d[2]), false);
        }
        Due.is("count(2) after wrong ones", king.count(2), 0);
        Due.is("count(11), not told", king.count(11), -1);
        Due.is("door(1, 3, 2)", king.door(1, 3, 2), true);
        Due.is("door(9, 11, 7)", king.door(9, 11, 7), true);
        Due.is("count(2)", king.count(2), 2 + 512);
        Due.is("count(11)", king.count(11), 27);
        Due.is("count(19)", king.count(19), 95);
        Due.is("n", king.placeIs(0, 0, 3), 18);
        Due.is("door(9, 1, 0)", king.door(9, 1, 0), true);
        Due.is("count(19) in place of the one before", king.count(19), 1);
        Due.is("n then", king.placeIs(0, 0, 3), 1);
        Due.is("a wall at the DOOR", Due.map(king, ".#"), 1);
        Due.is("n with no way", king.placeIs(0, 0, 3), 99);
        Due.is("the DOOR is told still", king.count(19), 1);
    }

    private static void feed() {
        BronzeKing king = new BronzeKing();
        for (int i = 1; i <= 13; i++) {
            Due.is("feed " + i, king.feed(0, 0, 0, 0, 0), 20 * i);
        }
        Due.is("feed 14", king.feed(0, 0, 0, 0, 0), -1);
        Due.is("count(5)", king.count(5), 260);
        // With no WEAR at all the first byte that is not 0 tells where it came to stand.
        int[][] words = {{0x01000000, 0, 0}, {0x00010000, 0, 0}, {0x00000100, 0, 0}, {0x00000001, 0, 0},
            {0, 0xFF000000, 0}, {0, 0x00FF0000, 0}, {0, 0x00008000, 0}, {0, 0x00000080, 0}, {0, 0, 0x80000000}};
        for (int i = 0; i < words.length; i++) {
            Due.is("empty", king.check(0, 0), -1);
            Due.is("feed", king.feed(words[i][0], words[i][1], words[i][2], 0, 0), 20);
            Due.is("byte " + i, king.check(0, 12), i);
        }
        Due.is("feed the last ones", king.feed(0, 0, 0, 0, 7) + king.feed(9, 0, 0, 0, 0), 60);
        Due.is("count(5)", king.count(5), 40);
    }

    private static void lawsThatCanStand() {
        BronzeKing king = new BronzeKing();
        String[] laws = {"s(1=1)", "c1(h=1)", "e12345(x<y)", "e[[[[[[5]]]]]]((((((h=h))))))", "s(!!!!!1=1)",
            "s(!!!!!1=1&!!!!!1=1|!!!!!1=1)", "s((((([1]=1)))))",
            "s([1+2]*[3-h]%m/w>n-b+v*d)", "s((1=1)&(2=2))", "s(!(1=1|2=2))", "s(![1]=1)"};
        for (String text : laws) {
            Due.is("law " + text, Due.law(king, text), 1);
        }
        Due.is("three", Due.law(king, "c1(1=1);e2(1=1);s(1=2)"), 3);
        Due.is("count(4)", king.count(4), 3);
        Due.is("sixteen", Due.law(king, rules(16)), 16);
        Due.is("count(4)", king.count(4), 16);
    }

    private static String rules(int n) {
        StringBuilder s = new StringBuilder();
        for (int i = 0; i < n; i++) {
            s.append(i == 0 ? "" : ";").append("s(1=1)");
        }
        return s.toString();
    }

    private static void lawFault(String text, int number, int at) {
        BronzeKing king = Due.king("", "c7(1=1);s(1=1)");
        Due.is("law " + text, Due.law(king, text), -1000 * number - at);
        Due.is("the law before stays", king.count(4), 2);
        Due.is("the law before holds", king.count(103), 7);
        Due.is("the tape is empty", king.count(5), 0);
    }

    private static void lawFaults() {
        lawFault("x", 1, 0);
        lawFault(";", 1, 0);
        lawFault("C1(1=1)", 1, 0);
        lawFault("c", 1, 1);
        lawFault("c1", 1, 2);
        lawFault("c(1=1)", 1, 1);
        lawFault("s1(1=1)", 1, 1);
        lawFault("s", 1, 1);
        lawFault("c 1(1=1)", 1, 1);
        lawFault("e-5(1=1)", 1, 1);
        lawFault("e5+(1=1)", 1, 3);
        lawFault("e5](1=1)", 1, 2);
        lawFault("e5)(1=1)", 1, 2);
        lawFault("e[5(1=1)", 1, 3);
        lawFault("e5=5(1=1)", 1, 2);
        lawFault("e[](1=1)", 1, 2);
        lawFault("e5h(1=1)", 1, 2);
        lawFault("eh5(1=1)", 1, 2);
        lawFault("ez(1=1)", 1, 1);
        lawFault("s()", 1, 2);
        lawFault("s(1)", 1, 3);
        lawFault("s(1&1=1)", 1, 3);
        lawFault("s(1=1=1)", 1, 5);
        lawFault("s(1=1", 1, 5);
        lawFault("s(1=", 1, 4);
        lawFault("s(1=1]", 1, 5);
        lawFault("s([1=1]=1)", 1, 4);
        lawFault("s([1)=1)", 1, 4);
        lawFault("s((1=1)=1)", 1, 7);
        lawFault("s((1)=1)", 1, 4);
        lawFault("s(1=(1))", 1, 4);
        lawFault("s(1=!1)", 1, 4);
        lawFault("s(1!=1)", 1, 3);
        lawFault("s(1=1&)", 1, 6);
        lawFault("s(1=1|)", 1, 6);
        lawFault("s(1=1&&1=1)", 1, 6);
        lawFault("s(!)", 1, 3);
        lawFault("s(1=1)1", 1, 6);
        lawFault("s(1=1)(1=1)", 1, 6);
        lawFault("s(1=1);", 1, 7);
        lawFault("s(1=1);;s(1=1)", 1, 7);
        lawFault("s(1=1))", 1, 6);
        lawFault("s(1=" + (char) 233 + ")", 1, 4);
        lawFault("s(1=" + (char) 0 + ")", 1, 4);
        lawFault("c123456(1=1)", 2, 6);
        lawFault("s(1=000001)", 2, 9);
        lawFault("s(1=1);e1+999999(1=1)", 2, 15);
        lawFault(rules(17), 4, 112);
        lawFault(rules(16) + ";c", 4, 112);
        lawFault(rules(16) + ";x", 1, 112);
        lawFault(rules(16) + ";", 1, 112);
    }

    private static void lawDepth() {
        lawFault("e[[[[[[[1]]]]]]](1=1)", 5, 7);
        lawFault("s(((((((1=1)))))))", 5, 7);
        lawFault("s(!!!!!!1=1)", 5, 7);
        lawFault("s([[[[[[1]]]]]]=1)", 5, 7);
        lawFault("s(!!!!![1]=1)", 5, 7);
        lawFault("s(!!!!!1=[1])", 5, 9);
        lawFault("s(!(!([!", 1, 7);
        lawFault("s(!(!([[1]]=1)))", 5, 7);
        lawFault("s(!!!!!(", 5, 7);
        lawFault("s((((((1=(", 1, 9);
        lawFault("s(!!!!!1=1&((((([1", 5, 16);
        BronzeKing king = new BronzeKing();
        Due.is("a ! ends with its TEST", Due.law(king, "s(!!!!(1=1)&!!!!!1=1|(((((1=1)))))&[[[[[1]]]]]=1)"), 1);
        Due.is("the ! around a bracket", Due.law(king, "s(!(!([1]+[1]=2)))"), 1);
    }

    private static void lawOnTheTape() {
        BronzeKing king = new BronzeKing();
        Due.is("law(1) of nothing", king.law(1), -1);
        for (int i = 0; i < 13; i++) {
            king.feed(0x73283D3D, 0, 0, 0, 0);
        }
        for (int n : new int[] {0, -1, 241, 260, 261, Integer.MIN_VALUE, Integer.MAX_VALUE}) {
            Due.is("law(" + n + ")", king.law(n), -1);
            Due.is("the tape stays", king.count(5), 260);
        }
        Due.is("law(240)", king.law(240), -1002);
        Due.is("the whole tape is empty", king.count(5), 0);
        king.feed(0x7328313D, 0x31290000, 0, 0, 0);
        Due.is("law(21), it has 20", king.law(21), -1);
        Due.is("law(6) of 20", king.law(6), 1);
        StringBuilder longest = new StringBuilder("s(1=1");
        while (longest.length() < 235) {
            longest.append("&1=1");
        }
        longest.append(longest.length() == 237 ? "+1)" : "+1+1)");
        Due.is("the longest", longest.length(), 240);
        Due.is("law of 240", Due.law(king, longest.toString()), 1);
    }

    private static void reckons(String rules, int hour, int want) {
        BronzeKing king = Due.king("", rules);
        Due.is(rules + " in HOUR " + hour, king.count(100 + hour), want);
    }

    private static void lawReckons() {
        reckons("c7-2-1(1=1)", 0, 4);
        reckons("c7-2*3(1=1)", 0, 1);
        reckons("c[7-2]*3(1=1)", 0, 15);
        reckons("c9/2*2(1=1)", 0, 8);
        reckons("c17%5*2(1=1)", 0, 4);
        reckons("c100/7/2(1=1)", 0, 7);
        reckons("c5+[0-7]%3(1=1)", 0, 4);
        reckons("c5+[0-7]/2(1=1)", 0, 2);
        reckons("c99(1=1)", 0, 99);
        reckons("c100(1=1)", 0, 99);
        reckons("c0-5(1=1)", 0, 0);
        reckons("c99999*99999%100(1=1)", 0, 9);
        reckons("c[65536*32768]/[0-1](1=1)", 0, 0);
        reckons("c5+[65536*32768]%[0-1](1=1)", 0, 5);
        reckons("c[65536*32768-1]/99999/999(1=1)", 0, 21);
        reckons("ch*2(h>3)", 3, 0);
        reckons("ch*2(h>3)", 23, 46);
        reckons("c5(h=1);c6(h<3);c7(1=1)", 1, 5);
        reckons("c5(h=1);c6(h<3);c7(1=1)", 2, 6);
        reckons("c5(h=1);c6(h<3);c7(1=1)", 3, 7);
        reckons("e9(1=1);s(1=1);c7(1=1)", 3, 7);
        reckons("cm+x+y+w+n+b+v+5(1=1)", 3, 5);
        reckons("c5(!h=3&h<6)", 3, 0);
        reckons("c5(!h=3&h<6)", 4, 5);
        reckons("c5(!h=3&h<6)", 7, 0);
        reckons("c5(h=1|h=2&d=1)", 1, 5);
        reckons("c5(h=1|h=2&d=1)", 2, 0);
        reckons("c5((h=1|h=2)&d=1)", 1, 0);
        reckons("c5(!!h=1)", 1, 5);
        reckons("c5(!(h=1|h=2))", 2, 0);
        reckons("c5(!(h=1|h=2))", 3, 5);
        BronzeKing king = Due.king("", "cd+1(h=0)");
        for (int day = 0; day < 15; day++) {
            Due.is("d on day " + day, king.count(100), day % 7 + 1);
            king.days(1);
        }
    }

    private static void lawRefuses() {
        reckons("c5/0(1=1);c7(1=1)", 0, 0);
        reckons("c5%0(1=1);c7(1=1)", 0, 0);
        reckons("c9+5/[h-3](1=1)", 3, 0);
        reckons("c9+5/[h-3](1=1)", 4, 14);
        reckons("c5(1/0=1);c7(1=1)", 0, 7);
        reckons("c5(1%0=0);c7(1=1)", 0, 7);
        reckons("c5(!1/0=1);c7(1=1)", 0, 7);
        reckons("c5(1/0=1|1=1);c7(1=1)", 0, 7);
        reckons("c5(1=1|1/0=1);c7(1=1)", 0, 5);
        reckons("c5(1=2&1/0=1|1=1);c7(1=1)", 0, 5);
        reckons("c5(1=1&1/0=1|1=1);c7(1=1)", 0, 7);
        reckons("c5(!(1=2&1/0=1));c7(1=1)", 0, 5);
        reckons("c5(!(1=1|1/0=1)|1=1);c7(1=1)", 0, 5);
        reckons("c5((1=1|1/0=1)&(2=2|1/0=1));c7(1=1)", 0, 5);
        reckons("c5(1=2&1=1&1/0=1|1=2|2=2);c7(1=1)", 0, 5);
    }

    private static void maps() {
        BronzeKing king = new BronzeKing();
        Due.is("map", Due.map(king, "2.#+3./9#3+/+"), 3);
        int[] first = {2, 2, 0, 1, 2, 2, 2, 2, 2, 2, 2, 2};
        for (int x = 0; x < 12; x++) {
            Due.is("row 0, " + x, king.placeIs(x, 0, 0), first[x]);
            Due.is("row 1, " + x, king.placeIs(x, 1, 0), x < 9 ? 0 : 1);
            Due.is("row 2, " + x, king.placeIs(x, 2, 0), x == 0 ? 1 : 2);
            Due.is("row 3, " + x, king.placeIs(x, 3, 0), 2);
        }
        Due.is("in place of the one before", Due.map(king, "."), 1);
        Due.is("open", king.placeIs(0, 1, 0), 2);
        Due.is("open PLACES", king.streets(4), 96);
        String row = "............";
        String longest = row + "/" + row + "/" + row + "/" + row + "/" + row + "/" + row + "/" + row + "/" + row;
        Due.is("eight whole rows", Due.map(king, longest), 8);
        Due.is("map(1) of nothing", king.map(1), -1);
        for (int i = 0; i < 6; i++) {
            king.feed(0x2E2E2E2E, 0, 0, 0, 0);
        }
        for (int n : new int[] {0, -1, 111, 120, 121, Integer.MIN_VALUE}) {
            Due.is("map(" + n + ")", king.map(n), -1);
            Due.is("the tape stays", king.count(5), 120);
        }
        Due.is("map(110)", king.map(110), -1004);
        Due.is("the tape is empty", king.count(5), 0);
    }

    private static void mapFault(String text, int number, int at) {
        BronzeKing king = Due.king(".+/#", "");
        Due.is("map " + text, Due.map(king, text), -1000 * number - at);
        Due.is("the map before stays", 10 * king.placeIs(1, 0, 0) + king.placeIs(0, 1, 0), 10);
        Due.is("the tape is empty", king.count(5), 0);
    }

    private static void mapFaults() {
        mapFault("x", 1, 0);
        mapFault("/", 1, 0);
        mapFault("1.", 1, 0);
        mapFault("0.", 1, 0);
        mapFault("2", 1, 1);
        mapFault("23.", 1, 1);
        mapFault("2/.", 1, 1);
        mapFault("./", 1, 2);
        mapFault(".//.", 1, 2);
        mapFault(". .", 1, 1);
        mapFault(".;", 1, 1);
        mapFault("." + (char) 174, 1, 1);
        mapFault("9.4.", 6, 2);
        mapFault("9.3..", 6, 4);
        mapFault("9.4", 1, 3);
        mapFault("9.4x", 1, 3);
        mapFault("9.3.2", 1, 5);
        mapFault("9.3.2#", 6, 4);
        mapFault("9.3./9#9+", 6, 7);
        mapFault("././././././././.", 4, 16);
        mapFault("././././././././9", 4, 16);
        mapFault("././././././././1", 1, 16);
        mapFault("././././././././", 1, 16);
        mapFault("./././././././././", 4, 16);
        mapFault("././././././././/", 1, 16);
    }

    private static void notes() {
        BronzeKing king = new BronzeKing();
        Due.is("5-", Due.notes(king, "5-"), 1);
        Due.is("count(1)", king.count(1), 1 << 5);
        Due.is("23-;0-;05?", Due.notes(king, "23-;0-;05?"), 3);
        Due.is("count(1)", king.count(1), 1 << 23 | 1);
        Due.is("22:1-", Due.notes(king, "22:1-"), 1);
        Due.is("count(1)", king.count(1), 3 << 22 | 3);
        Due.is("0:23?", Due.notes(king, "0:23?"), 1);
        Due.is("count(1)", king.count(1), 0);
        Due.is("7:7-", Due.notes(king, "7:7-"), 1);
        Due.is("count(1)", king.count(1), 1 << 7);
        Due.is("7:6-", Due.notes(king, "7:6-"), 1);
        Due.is("count(1)", king.count(1), (1 << 24) - 1);
        Due.is("in their order", Due.notes(king, "0:23?;3-;3?;4?;4-"), 5);
        Due.is("count(1)", king.count(1), 1 << 4);
        Due.is("notes(1) of nothing", king.notes(1), -1);
        for (int i = 0; i < 5; i++) {
            king.feed(0x352D3B35, 0, 0, 0, 0);
        }
        for (int n : new int[] {0, -1, 91, 100, 101, Integer.MAX_VALUE}) {
            Due.is("notes(" + n + ")", king.notes(n), -1);
            Due.is("the tape stays", king.count(5), 100);
        }
        Due.is("notes(90)", king.notes(90), -1004);
        Due.is("the tape is empty", king.count(5), 0);
        Due.is("twenty-four LINES", Due.notes(king, lines(24)), 24);
    }

    private static String lines(int n) {
        StringBuilder s = new StringBuilder();
        for (int i = 0; i < n; i++) {
            s.append(i == 0 ? "" : ";").append("5-");
        }
        return s.toString();
    }

    private static void noteFault(String text, int number, int at) {
        BronzeKing king = new BronzeKing();
        Due.notes(king, "9-");
        Due.is("notes " + text, Due.notes(king, text), -1000 * number - at);
        Due.is("nothing is done", king.count(1), 1 << 9);
        Due.is("the tape is empty", king.count(5), 0);
    }

    private static void noteFaults() {
        noteFault("x", 1, 0);
        noteFault("-", 1, 0);
        noteFault(":5-", 1, 0);
        noteFault("5", 1, 1);
        noteFault("5x", 1, 1);
        noteFault("5:", 1, 2);
        noteFault("5:-", 1, 2);
        noteFault("5:6", 1, 3);
        noteFault("5:6:7-", 1, 3);
        noteFault("5-;", 1, 3);
        noteFault("5--", 1, 2);
        noteFault("5-6-", 1, 2);
        noteFault("5 -", 1, 1);
        noteFault("123-", 2, 2);
        noteFault("240-", 2, 2);
        noteFault("001-", 2, 2);
        noteFault("1:123-", 2, 4);
        noteFault("24-", 3, 0);
        noteFault("24", 3, 0);
        noteFault("24x", 3, 0);
        noteFault("99:1-", 3, 0);
        noteFault("1:24-", 3, 2);
        noteFault("9?;5-;1:30-", 3, 8);
        noteFault(lines(25), 4, 72);
        noteFault(lines(24) + ";7", 4, 72);
        noteFault(lines(24) + ";99-", 4, 72);
        noteFault(lines(24) + ";x", 1, 72);
        noteFault(lines(24) + ";", 1, 72);
    }
}
