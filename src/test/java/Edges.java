import java.util.function.IntUnaryOperator;

/** What the tests of boundary cases share: numbers at both edges of a range, and every byte behind a text. */
final class Edges {
    /** Numbers that a narrower reckoning would take for small ones. */
    private static final int[] FAR_OFF = {Integer.MIN_VALUE, Integer.MIN_VALUE + 1, -65536, -65535, -1000, -256, -96,
        -24, -12, 256, 1000, 65536, 65537, 1 << 24, 1 << 30, Integer.MAX_VALUE - 1, Integer.MAX_VALUE};

    static final String ONE_ROW_OF_WALLS = "/9#3#";

    private Edges() {
    }

    /** Just the numbers from first to last are taken; every other one has the answer of what is refused. */
    static void range(String call, int first, int last, int refused, IntUnaryOperator ask) {
        for (int number = first - 4; number <= last + 4; number++) {
            // Of a long range its ends are enough.
            if (number < first + 300 || number > last - 300) {
                isTaken(call, number, first, last, refused, ask);
            }
        }
        for (int number : FAR_OFF) {
            isTaken(call, number, first, last, refused, ask);
        }
    }

    private static void isTaken(String call, int number, int first, int last, int refused, IntUnaryOperator ask) {
        boolean due = number >= first && number <= last;
        Due.is(call + " takes " + number, ask.applyAsInt(number) != refused, due);
    }

    static int fault(int number, int place) {
        return -1000 * number - place;
    }

    static boolean has(String signs, int sign) {
        return signs.indexOf(sign) >= 0;
    }

    /** A text, n times, with a sign between two. */
    static String rows(int n, String text, String between) {
        StringBuilder s = new StringBuilder();
        for (int i = 0; i < n; i++) {
            s.append(i == 0 ? "" : between).append(text);
        }
        return s.toString();
    }

    /** A map on which only those PLACES are open; the others are walls of that sign. */
    static String only(char wall, int... places) {
        StringBuilder s = new StringBuilder(rows(8, rows(12, "" + wall, ""), "/"));
        for (int place : places) {
            s.setCharAt(place / 12 * 13 + place % 12, '.');
        }
        return s.toString();
    }

    /** A king on THE SQUARE at that PLACE, with a map and a law (none if empty). */
    static BronzeKing kingAt(int square, String map, String law) {
        BronzeKing king = Due.king(map, law);
        Due.is("square", king.square(square % 12, square / 12), true);
        return king;
    }

    /** Lets so many DAYS go by, thirty a call. */
    static void letGo(BronzeKing king, int days) {
        for (int left = days; left > 0; left -= 30) {
            king.days(Math.min(30, left));
        }
    }
}
