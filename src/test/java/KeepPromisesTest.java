/** Promises 23 and 25 to 29: pigeons, the seed, what is KEPT and UNDONE, CHECK and what is counted. */
public final class KeepPromisesTest {
    private KeepPromisesTest() {
    }

    public static void main(String[] args) {
        pigeons();
        wrongPigeons();
        seed();
        keepAndUndo();
        whatIsNotKept();
        check();
        wrongChecks();
        count();
        Due.end();
    }

    private static void pigeons(int hour, int unlike, int... some) {
        byte[] bytes = new byte[24];
        for (int i = 0; i + 1 < some.length; i += 2) {
            bytes[some[i]] = (byte) some[i + 1];
        }
        BronzeKing king = new BronzeKing();
        Due.feed(king, bytes);
        Due.is("pigeons(0)", king.pigeons(0), hour);
        Due.is("the tape is empty", king.count(5), 0);
        Due.feed(king, bytes);
        Due.is("pigeons(1)", king.pigeons(1), unlike);
        Due.is("the tape is empty", king.count(5), 0);
    }

    private static void pigeons() {
        pigeons(0, 0);
        pigeons(5, 20, 5, 10);
        pigeons(0, 510, 0, 255);
        pigeons(23, 510, 23, 255);
        pigeons(0, 510, 0, 255, 2, 255);
        pigeons(3, 14, 3, 7, 9, 7);
        pigeons(0, 510, 23, 255, 1, 255);
        pigeons(8, 256 * 2 - 2 - 200, 8, 255, 9, 200);
    }

    private static void wrongPigeons() {
        BronzeKing king = new BronzeKing();
        king.feed(0, 0, 0, 0, 0);
        Due.is("it has not so many", king.pigeons(0), -1);
        Due.is("the tape stays", king.count(5), 20);
        king.feed(0, 0, 0, 0, 0);
        for (int what : new int[] {-1, 2, Integer.MAX_VALUE}) {
            Due.is("pigeons(" + what + ")", king.pigeons(what), -1);
            Due.is("the tape stays", king.count(5), 40);
        }
        Due.is("pigeons(0)", king.pigeons(0), 0);
    }

    private static void seed() {
        BronzeKing king = Due.king("", "c1(1=1)");
        for (int x : new int[] {0, 1, 65535, 12345}) {
            Due.is("seed(" + x + ")", king.seed(x), true);
            Due.is("X", king.count(6), x);
            king.days(1);
            Due.is("X behind it", king.count(6), (int) ((25173L * x + 13849) % 65536));
        }
        int before = king.count(6);
        for (int x : new int[] {-1, 65536, Integer.MIN_VALUE, Integer.MAX_VALUE}) {
            Due.is("seed(" + x + ")", king.seed(x), false);
            Due.is("X stays", king.count(6), before);
        }
    }

    private static void keepAndUndo() {
        BronzeKing king = Due.king("", "c1(h=d+3);e1(1=1)");
        Due.is("undo() of nothing", king.undo(), false);
        king.days(2);
        Due.is("keep()", king.keep(), 2);
        int x = king.count(6);
        int wear = king.placeIs(11, 0, 1);
        king.days(1);
        king.seed(7);
        Due.is("THE WALK of the third DAY", king.walk(100), 5);
        for (int i = 0; i < 2; i++) {
            Due.is("undo()", king.undo(), true);
            Due.is("THE DAY", king.count(0), 2);
            Due.is("X", king.count(6), x);
            Due.is("WEAR", king.placeIs(11, 0, 1), wear);
            Due.is("WEAR of all", king.count(7), 120);
            Due.is("THE WALK", king.walk(100), 4);
            Due.is("where he was", king.walk(5), 6);
            Due.is("STEPS", king.walk(101), 60);
            Due.is("how far", king.walk(103), 12);
            king.days(3);
        }
        Due.is("keep() again", king.keep(), 5);
        king.days(1);
        Due.is("undo()", king.undo(), true);
        Due.is("as KEPT last", king.count(0), 5);
    }

    private static void whatIsNotKept() {
        BronzeKing king = Due.king("", "c1(1=1)");
        Due.is("keep()", king.keep(), 0);
        Due.map(king, ".#");
        Due.law(king, "c2(1=1);e1(1=1)");
        Due.notes(king, "3-");
        king.square(5, 5);
        king.door(4, 1, 1);
        king.feed(0, 0, 0, 0, 0);
        king.days(1);
        Due.is("undo()", king.undo(), true);
        Due.is("the map", king.placeIs(1, 0, 0), 0);
        Due.is("THE LAW", king.count(4), 2);
        Due.is("WATCHED", king.count(1), 8);
        Due.is("THE SQUARE", king.count(3), 65);
        Due.is("DOORS", king.count(2), 16);
        Due.is("the tape", king.count(5), 20);
        Due.is("THE WALK of no DAY", king.walk(0), -2);
    }

    private static void check() {
        BronzeKing king = Due.king("2.9##/9#3#/9#3#/9#3#/9#3#/9#3#/9#3#/9#3#", "c1(1=1);e1(1=1)");
        king.days(9);
        Due.is("WEAR", king.placeIs(1, 0, 1), 270);
        Due.feed(king, new byte[] {14, 14});
        Due.is("modulo 256", king.check(0, 12), 2);
        Due.feed(king, new byte[] {14, 14, 0, 0, 0, 0, 0, 0, 0, 0, 0, 0, 99});
        Due.is("right", king.check(0, 12), -1);
        Due.is("the tape is empty", king.count(5), 0);
        Due.feed(king, new byte[] {14, 13});
        Due.is("the first that is not so", king.check(0, 2), 1);
        Due.feed(king, new byte[] {14, 13});
        Due.is("as far as is asked", king.check(0, 1), -1);
        Due.feed(king, new byte[] {14});
        Due.is("another ROW", king.check(7, 1), 0);
        Due.feed(king, new byte[12]);
        Due.is("the last ROW", king.check(7, 12), -1);
        Due.feed(king, new byte[12]);
        Due.is("no byte", king.check(0, 0), -1);
        Due.is("the tape is empty", king.count(5), 0);
        Due.is("no byte of none", king.check(0, 0), -1);
    }

    private static void wrongChecks() {
        BronzeKing king = new BronzeKing();
        Due.is("it has not so many", king.check(0, 1), -2);
        king.feed(0, 0, 0, 0, 0);
        int[][] wrong = {{-1, 0}, {8, 0}, {0, -1}, {0, 13}, {0, 21}, {Integer.MAX_VALUE, 1}};
        for (int[] w : wrong) {
            Due.is("check(" + w[0] + ", " + w[1] + ")", king.check(w[0], w[1]), -2);
            Due.is("the tape stays", king.count(5), 20);
        }
    }

    private static void count() {
        BronzeKing king = Due.king("", "ch(h>20);c3(h=0);e1(y=0);s(x=2|m>57)");
        king.square(0, 0);
        king.door(1, 2, 3);
        Due.notes(king, "0-;23-");
        king.days(3);
        king.feed(1, 2, 3, 4, 5);
        int[] due = {3, 1 << 23 | 1, 2, 0, 4, 20, king.count(6), 12, 69};
        for (int what = 0; what < due.length; what++) {
            Due.is("count(" + what + ")", king.count(what), due[what]);
        }
        Due.is("count(11)", king.count(11), 38);
        Due.is("count(12), not told", king.count(12), -1);
        Due.is("count(100)", king.count(100), 3);
        Due.is("count(101)", king.count(101), 0);
        Due.is("count(123)", king.count(123), 23);
        for (int what : new int[] {-1, 9, 10, 20, 99, 124, Integer.MAX_VALUE, Integer.MIN_VALUE}) {
            Due.is("count(" + what + ")", king.count(what), -1);
        }
    }
}
