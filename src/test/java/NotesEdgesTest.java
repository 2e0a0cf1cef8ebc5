/** Boundary cases of NOTES: promise 7. */
public final class NotesEdgesTest {
    private static final String DIGITS = "0123456789";
    private static final int ALL = (1 << 24) - 1;

    private NotesEdgesTest() {
    }

    public static void main(String[] args) {
        lengths();
        longest();
        firstBytesAlone();
        hours();
        fromTo();
        thirdDigit();
        lines();
        everyByte();
        everyByteInsideALine();
        faultsFromTheLeft();
        nothingIsDoneByAFault();
        linesInTheirOrder();
        Due.end();
    }

    private static int notes(String text) {
        return Due.notes(new BronzeKing(), text);
    }

    private static BronzeKing fed(int times) {
        BronzeKing king = new BronzeKing();
        for (int i = 0; i < times; i++) {
            king.feed(0x352D3B35, 0x2D3B352D, 0x3B352D3B, 0x352D3B35, 0x2D3B352D);
        }
        return king;
    }

    /** "NOTES by the first n bytes of the tape (1 to 90; empty then)"; "NONE: as above" (the tape stays). */
    private static void lengths() {
        for (int times = 0; times <= 13; times++) {
            int most = Math.min(90, 20 * times);
            int fed = times;
            Edges.range("notes(n) of " + 20 * times, 1, most, -1, n -> fed(fed).notes(n));
        }
        for (int n : new int[] {-1, 0, 1, 2, 90, 91, 100, 101}) {
            BronzeKing king = fed(5);
            king.notes(n);
            Due.is("the tape behind notes(" + n + ")", king.count(5), n >= 1 && n <= 90 ? 0 : 100);
            Due.is("WATCHED behind notes(" + n + ")", king.count(1), n == 2 ? 32 : 0);
        }
    }

    /** "a TEXT of at most 90 bytes". */
    private static void longest() {
        BronzeKing king = new BronzeKing();
        String text = Edges.rows(13, "10:12-", ";");
        Due.is("90 bytes", text.length(), 90);
        Due.is("thirteen LINES", Due.notes(king, text), 13);
        Due.is("WATCHED", king.count(1), 7 << 10);
        String cut = Edges.rows(12, "10:12-", ";") + ";10:12";
        Due.is("the end comes too soon", notes(cut), Edges.fault(1, 89));
        String ending = Edges.rows(10, "10:12-", ";") + Edges.rows(7, ";5-", "");
        Due.is("90 bytes in 17 LINES", notes(ending), 17);
        Due.is("a ; at their end", notes("1:2-;" + Edges.rows(12, "10:12-", ";") + ";"), Edges.fault(1, 89));
    }

    private static void firstBytesAlone() {
        BronzeKing king = new BronzeKing();
        Due.feed(king, "7-;8-;x");
        Due.is("two bytes", king.notes(2), 1);
        Due.is("one HOUR", king.count(1), 1 << 7);
        Due.is("the whole tape is empty", king.count(5), 0);
        Due.feed(king, "23-");
        Due.is("cut short", king.notes(2), Edges.fault(1, 2));
    }

    /** "HOUR 0 to 23, one or two digits"; "3 an HOUR above 23, at its first digit". */
    private static void hours() {
        for (int hour = 0; hour <= 99; hour++) {
            String two = (hour < 10 ? "0" : "") + hour;
            for (String digits : new String[] {"" + hour, two}) {
                BronzeKing king = new BronzeKing();
                int due = hour > 23 ? Edges.fault(3, 0) : 1;
                Due.is(digits + "-", Due.notes(king, digits + "-"), due);
                Due.is("WATCHED", king.count(1), hour > 23 ? 0 : 1 << hour);
                Due.is("1:" + digits + "?", notes("1:" + digits + "?"), hour > 23 ? Edges.fault(3, 2) : 1);
                Due.is("in a second LINE", notes("1-;" + digits + "?"), hour > 23 ? Edges.fault(3, 3) : 2);
                Due.is("both", notes(digits + ":" + digits + "?"), due);
            }
        }
    }

    /** "from the first to the second one, over midnight if that is less". */
    private static void fromTo() {
        for (int first = 0; first < 24; first++) {
            for (int last = 0; last < 24; last++) {
                int bits = 0;
                for (int hour = 0; hour < 24; hour++) {
                    boolean isIn = first <= last ? hour >= first && hour <= last : hour >= first || hour <= last;
                    bits |= isIn ? 1 << hour : 0;
                }
                BronzeKing king = new BronzeKing();
                String range = first + ":" + last;
                Due.is(range + "-", Due.notes(king, range + "-"), 1);
                Due.is(range + " is WATCHED", king.count(1), bits);
                Due.notes(king, "0:23-");
                Due.is(range + "?", Due.notes(king, range + "?"), 1);
                Due.is(range + " is not WATCHED", king.count(1), ALL & ~bits);
            }
        }
    }

    /** "2 a third digit, at it". */
    private static void thirdDigit() {
        for (int number : new int[] {100, 123, 239, 240, 999}) {
            Due.is(number + "-", notes(number + "-"), Edges.fault(2, 2));
            Due.is("5:" + number + "-", notes("5:" + number + "-"), Edges.fault(2, 4));
            Due.is("5-;" + number, notes("5-;" + number), Edges.fault(2, 5));
        }
        Due.is("000-", notes("000-"), Edges.fault(2, 2));
        Due.is("00-", notes("00-"), 1);
        Due.is("1234567-", notes("1234567-"), Edges.fault(2, 2));
    }

    /** "LINES with a ; between two (24 at most)"; "4 a 25th LINE, at its first digit". */
    private static void lines() {
        for (int n = 1; n <= 30; n++) {
            BronzeKing king = new BronzeKing();
            int due = n <= 24 ? n : Edges.fault(4, 72);
            Due.is(n + " LINES", Due.notes(king, Edges.rows(n, "5-", ";")), due);
            Due.is("WATCHED", king.count(1), n <= 24 ? 32 : 0);
        }
        String[] behind = {"5", "24-", "999", "5x", "x5-", "-", ":", "", ";5-"};
        int[] numbers = {4, 4, 4, 4, 1, 1, 1, 1, 1};
        for (int i = 0; i < behind.length; i++) {
            String text = Edges.rows(24, "5-", ";") + ";" + behind[i];
            Due.is("behind 24 LINES " + behind[i], notes(text), Edges.fault(numbers[i], 72));
        }
    }

    private static int notes(String ahead, int sign) {
        return notes(ahead + (char) sign);
    }

    /** "1 what can't stand there (the end, too)": each byte at each kind of place. */
    private static void everyByte() {
        for (int b = 0; b < 256; b++) {
            boolean isDigit = Edges.has(DIGITS, b);
            boolean isMark = b == '-' || b == '?';
            Due.is("at first " + b, notes("", b), Edges.fault(1, isDigit ? 1 : 0));
            Due.is("behind a digit " + b, notes("2", b), isMark ? 1
                : isDigit && b > '3' ? Edges.fault(3, 0) : Edges.fault(1, isDigit || b == ':' ? 2 : 1));
            Due.is("behind two digits " + b, notes("12", b),
                isMark ? 1 : isDigit ? Edges.fault(2, 2) : Edges.fault(1, b == ':' ? 3 : 2));
            Due.is("behind a LINE " + b, notes("5-", b), Edges.fault(1, b == ';' ? 3 : 2));
            Due.is("behind a ; " + b, notes("5?;", b), Edges.fault(1, isDigit ? 4 : 3));
            Due.is("behind 24 LINES " + b, notes(Edges.rows(24, "5-", ";"), b), Edges.fault(1, b == ';' ? 72 : 71));
            Due.is("in a 25th LINE " + b, notes(Edges.rows(24, "5-", ";") + ";", b),
                Edges.fault(isDigit ? 4 : 1, 72));
        }
    }

    private static void everyByteInsideALine() {
        for (int b = 0; b < 256; b++) {
            boolean isDigit = Edges.has(DIGITS, b);
            boolean isMark = b == '-' || b == '?';
            Due.is("behind a : " + b, notes("5:", b), Edges.fault(1, isDigit ? 3 : 2));
            Due.is("behind the second HOUR " + b, notes("5:12", b),
                isMark ? 1 : isDigit ? Edges.fault(2, 4) : Edges.fault(1, 4));
            // The number has ended, so it is asked, and its FAULT stands farther left.
            Due.is("behind 24 " + b, notes("24", b), isDigit ? Edges.fault(2, 2) : Edges.fault(3, 0));
            Due.is("behind 5:99 " + b, notes("5:99", b), isDigit ? Edges.fault(2, 4) : Edges.fault(3, 2));
        }
        Due.is("24 and the end", notes("24"), Edges.fault(3, 0));
    }

    private static void faultsFromTheLeft() {
        String[] texts = {"24-;x", "5-;24:99-", "5:24:3-", "x24-", "5-;123-;x", "99:99-", "23:24?;;"};
        int[] due = {-3000, -3003, -3002, -1000, -2005, -3000, -3003};
        for (int i = 0; i < texts.length; i++) {
            Due.is("notes " + texts[i], notes(texts[i]), due[i]);
        }
    }

    /** "Nothing is done by NOTES with a FAULT", nor by the next ones. */
    private static void nothingIsDoneByAFault() {
        String[] texts = {"5-;6-;x", "0:23-;24-", "0:23?;1", "7?;123-", Edges.rows(25, "3-", ";")};
        for (String text : texts) {
            BronzeKing king = new BronzeKing();
            Due.notes(king, "7-;22:1-");
            Due.is("a FAULT in " + text, Due.notes(king, text) < -1, true);
            Due.is("nothing is done", king.count(1), 1 << 7 | 3 << 22 | 3);
            Due.is("the tape is empty", king.count(5), 0);
            Due.is("the next one", Due.notes(king, "9-"), 1);
            Due.is("is done alone", king.count(1), 1 << 7 | 1 << 9 | 3 << 22 | 3);
        }
    }

    private static void linesInTheirOrder() {
        BronzeKing king = new BronzeKing();
        Due.is("not WATCHED at first", king.count(1), 0);
        Due.is("not any more", Due.notes(king, "0:23?"), 1);
        Due.is("nothing was", king.count(1), 0);
        Due.is("all", Due.notes(king, "0:23-"), 1);
        Due.is("all are", king.count(1), ALL);
        Due.is("again", Due.notes(king, "5-"), 1);
        Due.is("all are still", king.count(1), ALL);
        Due.is("one after the other", Due.notes(king, "0:23?;4:8-;6?;6:7-;5:6?"), 5);
        Due.is("4, 7 and 8", king.count(1), 1 << 4 | 1 << 7 | 1 << 8);
        king.days(3);
        Due.is("DAYS leave them", king.count(1), 1 << 4 | 1 << 7 | 1 << 8);
    }
}
