/** Boundary cases of LIKELY, WATCH and SURE: promises 11 to 13. */
public final class HourEdgesTest {
    private HourEdgesTest() {
    }

    public static void main(String[] args) {
        likelyNumbers();
        likelyFractions();
        likelyOfNothing();
        likelyToday();
        watchNumbers();
        watchAsManyAsAreLeft();
        watchOfLikeOnes();
        watchOfEachHour();
        watchFractions();
        watchOfNothing();
        sureNumbers();
        sureAtLeast();
        sureOfNothing();
        sureWithWatchedOnes();
        askingChangesNothing();
        Due.end();
    }

    private static BronzeKing king(String law, String notes) {
        BronzeKing king = Due.king("", law);
        if (!notes.isEmpty()) {
            Due.is("notes " + notes, Due.notes(king, notes) > 0, true);
        }
        return king;
    }

    /** "LIKELY of an HOUR, what 0 above, 1 below the line ..; NONE: no such ones". */
    private static void likelyNumbers() {
        Edges.range("likely(hour, 0)", 0, 23, -1, hour -> king("c1(1=1)", "").likely(hour, 0));
        Edges.range("likely(hour, 1)", 0, 23, -1, hour -> king("c1(1=1)", "").likely(hour, 1));
        Edges.range("likely(5, what)", 0, 1, -1, what -> king("c1(1=1)", "").likely(5, what));
        // What is no such one is told ahead of what is WATCHED or weighs nothing.
        Edges.range("likely(hour, 0), all WATCHED", 0, 23, -1, hour -> king("c1(1=1)", "0:23-").likely(hour, 0));
        Edges.range("likely(5, what), WATCHED", 0, 1, -1, what -> king("c1(1=1)", "5-").likely(5, what));
        Edges.range("likely(5, what), no law", 0, 1, -1, what -> new BronzeKing().likely(5, what));
    }

    private static void likely(BronzeKing king, int hour, int above, int below) {
        Due.is("likely(" + hour + ", 0)", king.likely(hour, 0), above);
        Due.is("likely(" + hour + ", 1)", king.likely(hour, 1), below);
    }

    /** "without a common divisor". */
    private static void likelyFractions() {
        for (int weight = 1; weight <= 99; weight++) {
            BronzeKing king = king("c" + weight + "(1=1)", "");
            likely(king, 0, 1, 24);
            likely(king, 23, 1, 24);
        }
        likely(king("c99(h=0);c98(h=1)", ""), 0, 99, 197);
        likely(king("c99(h=0);c98(h=1)", ""), 1, 98, 197);
        likely(king("c98(h=0);c98(h=23)", ""), 23, 1, 2);
        likely(king("c99(h=7)", ""), 7, 1, 1);
        likely(king("c99(h=7)", ""), 8, 0, 1);
        likely(king("c1(h=7)", ""), 0, 0, 1);
        likely(king("c97(h=0);c99(1=1)", ""), 0, 97, 97 + 23 * 99);
        likely(king("c66(h=0);c99(1=1)", ""), 0, 2, 71);
        likely(king("c12(h=3);c18(h=4)", ""), 3, 2, 5);
        likely(king("c12(h=3);c18(h=4)", ""), 4, 3, 5);
        likely(king("c12(h=3);c18(h=4)", "4-"), 3, 1, 1);
    }

    /** "-2: it is WATCHED, all that are not weigh nothing". */
    private static void likelyOfNothing() {
        for (int hour = 0; hour < 24; hour++) {
            BronzeKing watched = king("c1(1=1)", hour + "-");
            likely(watched, hour, -2, -2);
            likely(watched, (hour + 1) % 24, 1, 23);
            BronzeKing left = king("c1(1=1)", "0:23-;" + hour + "?");
            likely(left, hour, 1, 1);
            likely(left, (hour + 1) % 24, -2, -2);
            likely(king("c5(h=" + hour + ")", hour + "-"), (hour + 1) % 24, -2, -2);
            likely(king("c5(h=" + hour + ")", hour + "-;" + hour + "?"), hour, 1, 1);
        }
        likely(new BronzeKing(), 0, -2, -2);
        likely(king("c0(1=1)", ""), 23, -2, -2);
        likely(king("c1/0(1=1)", ""), 23, -2, -2);
    }

    /** "today .. (weights c as they are now)". */
    private static void likelyToday() {
        BronzeKing king = king("c7(h=d);c1(h=9)", "");
        for (int day = 0; day < 9; day++) {
            likely(king, day % 7, 7, 8);
            Due.is("watch", king.watch(1, 0), 1 << day % 7);
            king.days(1);
        }
        Due.law(king, "c1(h=9)");
        likely(king, 2, 0, 1);
    }

    /** "WATCH: k more HOURS (1 to 6)"; "what 0 which (bits), 1 above, 2 below the line; NONE: no such ones". */
    private static void watchNumbers() {
        for (int what = 0; what <= 2; what++) {
            int asked = what;
            Edges.range("watch(k, " + what + ")", 1, 6, -1, k -> king("c1(1=1)", "").watch(k, asked));
            Edges.range("watch(k, " + what + "), no law", 1, 6, -1, k -> new BronzeKing().watch(k, asked));
        }
        for (int k = 1; k <= 6; k++) {
            int asked = k;
            Edges.range("watch(" + k + ", what)", 0, 2, -1, what -> king("c1(1=1)", "").watch(asked, what));
            Edges.range("watch(" + k + ", what), all WATCHED", 0, 2, -1,
                what -> king("c1(1=1)", "0:23-").watch(asked, what));
        }
    }

    /** "-2: fewer are not WATCHED". */
    private static void watchAsManyAsAreLeft() {
        for (int left = 0; left <= 7; left++) {
            String notes = left == 0 ? "0:23-" : "0:23-;" + (24 - left) + ":23?";
            for (int k = 1; k <= 6; k++) {
                BronzeKing king = king("c1(1=1)", notes);
                boolean isEnough = k <= left;
                Due.is(k + " of " + left, king.watch(k, 0), isEnough ? (1 << k) - 1 << 24 - left : -2);
                int divisor = isEnough ? gcd(k, left) : 1;
                Due.is(k + " of " + left + " above", king.watch(k, 1), isEnough ? k / divisor : -2);
                Due.is(k + " of " + left + " below", king.watch(k, 2), isEnough ? left / divisor : -2);
            }
        }
    }

    private static int gcd(int a, int b) {
        return b == 0 ? a : gcd(b, a % b);
    }

    /** "of like ones the least bits". */
    private static void watchOfLikeOnes() {
        BronzeKing alike = king("c5(1=1)", "");
        for (int k = 1; k <= 6; k++) {
            Due.is("all alike, " + k, alike.watch(k, 0), (1 << k) - 1);
        }
        BronzeKing late = king("c9(h>20);c4(h>17);c1(1=1)", "");
        int[] due = {1 << 21, 3 << 21, 7 << 21, 7 << 21 | 1 << 18, 7 << 21 | 3 << 18, 7 << 21 | 7 << 18};
        for (int k = 1; k <= 6; k++) {
            Due.is("the heavy ones first, " + k, late.watch(k, 0), due[k - 1]);
        }
        BronzeKing few = king("c9(h=23)", "0-;2-");
        int[] filled = {1 << 23, 1 << 23 | 2, 1 << 23 | 10, 1 << 23 | 26, 1 << 23 | 58, 1 << 23 | 122};
        for (int k = 1; k <= 6; k++) {
            Due.is("filled up with such as weigh nothing, " + k, few.watch(k, 0), filled[k - 1]);
            Due.is("all of it", few.watch(k, 1), 1);
            Due.is("all of it", few.watch(k, 2), 1);
        }
    }

    private static void watchOfEachHour() {
        for (int hour = 0; hour < 24; hour++) {
            Due.is("the heaviest", king("c2(h=" + hour + ");c1(1=1)", "").watch(1, 0), 1 << hour);
            int next = hour == 0 ? 1 : 0;
            Due.is("it is WATCHED", king("c2(h=" + hour + ");c1(1=1)", hour + "-").watch(1, 0), 1 << next);
        }
    }

    /** "by what fraction", without a common divisor as above. */
    private static void watchFractions() {
        BronzeKing king = king("c50(h=3);c30(h=4);c15(h=5);c5(h=6)", "");
        int[] above = {1, 4, 19, 1, 1, 1};
        int[] below = {2, 5, 20, 1, 1, 1};
        for (int k = 1; k <= 6; k++) {
            Due.is("above, " + k, king.watch(k, 1), above[k - 1]);
            Due.is("below, " + k, king.watch(k, 2), below[k - 1]);
        }
        BronzeKing most = king("c99(1=1)", "");
        Due.is("six of 24", most.watch(6, 1), 1);
        Due.is("six of 24", most.watch(6, 2), 4);
        Due.is("five of 24", most.watch(5, 1) * 100 + most.watch(5, 2), 524);
        Due.notes(king, "3-");
        Due.is("of what is not WATCHED", king.watch(1, 1) * 100 + king.watch(1, 2), 305);
    }

    /** "-2: .. all of these weigh nothing". */
    private static void watchOfNothing() {
        for (int k = 1; k <= 6; k++) {
            for (int what = 0; what <= 2; what++) {
                Due.is("no law", new BronzeKing().watch(k, what), -2);
                Due.is("what weighs is WATCHED", king("c9(h=4)", "4-").watch(k, what), -2);
                Due.is("no more", king("c9(h=4)", "4-;4?").watch(k, what) >= 0, true);
                Due.is("all WATCHED", king("c9(1=1)", "0:23-").watch(k, what), -2);
            }
        }
    }

    /** "SURE by hundredths (1 to 100) ..; NONE: no such number". */
    private static void sureNumbers() {
        Edges.range("sure(n)", 1, 100, -1, n -> king("c1(1=1)", "").sure(n));
        Edges.range("sure(n), nothing weighs", 1, 100, -1, n -> new BronzeKing().sure(n));
    }

    /** "the fewest HOURS more .. as likely as so many hundredths at least". */
    private static void sureAtLeast() {
        BronzeKing alike = king("c7(1=1)", "");
        BronzeKing three = king("c1(h<3)", "");
        BronzeKing steep = king("c97(h=5);c2(h=7);c1(h=0)", "");
        BronzeKing most = king("c99(h<23);c98(h=23)", "");
        for (int n = 1; n <= 100; n++) {
            Due.is("24 alike, " + n, alike.sure(n), (24 * n + 99) / 100);
            Due.is("three alike, " + n, three.sure(n), n <= 33 ? 1 : n <= 66 ? 2 : 3);
            Due.is("a steep one, " + n, steep.sure(n), n <= 97 ? 1 : n <= 99 ? 2 : 3);
            int hours = 1;
            while (hours < 24 && Math.min(99 * hours, 2375) * 100 < n * 2375) {
                hours++;
            }
            Due.is("all but one, " + n, most.sure(n), hours);
        }
        Due.is("one is enough", king("c1(h=23)", "").sure(100), 1);
        Due.is("the last one, too", king("c99(h<23);c1(h=23)", "").sure(100), 24);
        Due.is("all but the last one", king("c99(h<23);c1(h=23)", "").sure(99), 23);
    }

    /** "-2: all that are not WATCHED weigh nothing". */
    private static void sureOfNothing() {
        for (int n : new int[] {1, 50, 100}) {
            Due.is("no law", new BronzeKing().sure(n), -2);
            Due.is("no weight", king("c0(1=1)", "").sure(n), -2);
            Due.is("all WATCHED", king("c5(1=1)", "0:23-").sure(n), -2);
            Due.is("what weighs is WATCHED", king("c5(h=2)", "2-").sure(n), -2);
            Due.is("one is left", king("c5(1=1)", "0:23-;9?").sure(n), 1);
        }
    }

    private static void sureWithWatchedOnes() {
        BronzeKing king = king("c50(h=3);c30(h=4);c15(h=5);c5(h=6)", "3-");
        int[][] due = {{1, 1}, {60, 1}, {61, 2}, {90, 2}, {91, 3}, {100, 3}};
        for (int[] d : due) {
            Due.is("sure(" + d[0] + ")", king.sure(d[0]), d[1]);
        }
    }

    private static void askingChangesNothing() {
        BronzeKing king = king("c50(h=3);c30(h=4)", "9-");
        for (int i = 0; i < 5; i++) {
            Due.is("watch", king.watch(2, 0), 24);
            Due.is("sure", king.sure(100), 2);
            likely(king, 3, 5, 8);
            Due.is("WATCHED", king.count(1), 1 << 9);
        }
        Due.is("no DRAW", king.count(6), 1);
        Due.is("no DAY", king.count(0), 0);
    }
}
