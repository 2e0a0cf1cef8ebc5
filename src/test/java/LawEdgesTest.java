/** Boundary cases of THE LAW as a text: promise 5. */
public final class LawEdgesTest {
    private static final String DIGITS = "0123456789";
    private static final String LETTERS = "hdmxywnbv";
    private static final String SUMS = "+-*/%";
    private static final String SIXTEEN = Edges.rows(16, "s(1=1)", ";");

    private LawEdgesTest() {
    }

    public static void main(String[] args) {
        lengths();
        longest();
        firstBytesAlone();
        rules();
        digits();
        everyByteOfARule();
        everyByteOfAnE();
        everyByteOfAC();
        everyByteAtTheLimits();
        openInOneAnother();
        openInTheSecondE();
        openInTheEOfARule();
        openSideBySide();
        faultsFromTheLeft();
        theOneBeforeStays();
        inPlaceOfTheOneBefore();
        manyLaws();
        Due.end();
    }

    private static int law(String text) {
        return Due.law(new BronzeKing(), text);
    }

    private static BronzeKing fed(int times) {
        BronzeKing king = new BronzeKing();
        for (int i = 0; i < times; i++) {
            king.feed(0x7328313D, 0x31293B73, 0x28313D31, 0x293B7328, 0x313D3129);
        }
        return king;
    }

    /** "THE LAW by the first n bytes of the tape (1 to 240; empty then)"; "NONE .. (the tape stays)". */
    private static void lengths() {
        for (int times = 0; times <= 13; times++) {
            int most = Math.min(240, 20 * times);
            int fed = times;
            Edges.range("law(n) of " + 20 * times, 1, most, -1, n -> fed(fed).law(n));
        }
        for (int n : new int[] {-1, 0, 1, 6, 20, 240, 241, 260, 261}) {
            BronzeKing king = fed(13);
            king.law(n);
            Due.is("the tape behind law(" + n + ")", king.count(5), n >= 1 && n <= 240 ? 0 : 260);
            Due.is("RULES behind law(" + n + ")", king.count(4), n == 6 ? 1 : n == 20 ? 3 : 0);
        }
    }

    /** "a TEXT of at most 240 bytes". */
    private static void longest() {
        String text = "c7(" + Edges.rows(59, "1=1", "&") + ")";
        Due.is("its length", text.length(), 239);
        BronzeKing king = Due.king("", "c17" + text.substring(2));
        Due.is("240 bytes", king.count(4), 1);
        Due.is("they hold", king.count(100), 17);
        Due.is("the end too soon", law(text.substring(0, 238) + "&1"), Edges.fault(1, 240));
        Due.is("what can't stand at the last", law(text + "x"), Edges.fault(1, 239));
        String sums = "c" + Edges.rows(116, "1", "+") + "(1=1)";
        Due.is("a long E", sums.length(), 237);
        Due.is("its value", Due.king("", sums.replace("(1=1)", "-50(1=1)")).count(100), 66);
        String falls = "c7(" + Edges.rows(58, "1=2", "|") + "|1=1)";
        Due.is("the last PART holds", Due.king("", falls).count(100), 7);
    }

    private static void firstBytesAlone() {
        BronzeKing king = new BronzeKing();
        Due.feed(king, "c5(1=1);c6(1=1)");
        Due.is("one RULE", king.law(7), 1);
        Due.is("the tape is empty", king.count(5), 0);
        Due.feed(king, "c5(1=1);c6(1=1)");
        Due.is("a ; at the end", king.law(8), Edges.fault(1, 8));
        Due.feed(king, "c5(1=12)");
        Due.is("cut in a number", king.law(6), Edges.fault(1, 6));
        Due.is("no sign at all", law("c"), Edges.fault(1, 1));
    }

    /** "RULES (16 at most)"; "4 a 17th RULE, at its letter (if that can stand there)". */
    private static void rules() {
        for (int n = 1; n <= 20; n++) {
            BronzeKing king = new BronzeKing();
            Due.is(n + " RULES", Due.law(king, Edges.rows(n, "s(1=1)", ";")), n <= 16 ? n : Edges.fault(4, 112));
            Due.is("count(4)", king.count(4), n <= 16 ? n : 0);
        }
        StringBuilder each = new StringBuilder();
        for (int hour = 0; hour < 16; hour++) {
            each.append(hour == 0 ? "" : ";").append('c').append(hour + 50).append("(h=").append(hour).append(')');
        }
        BronzeKing king = Due.king("", each.toString());
        for (int hour = 0; hour < 24; hour++) {
            Due.is("RULE by RULE, HOUR " + hour, king.count(100 + hour), hour < 16 ? hour + 50 : 0);
        }
        Due.is("none of the last is gone", Due.law(king, SIXTEEN.replace("s(1=1);", "s(1=2);")), 16);
        Due.law(king, Edges.rows(15, "s(1=2)", ";") + ";c3(1=1)");
        Due.is("the sixteenth", king.count(123), 3);
    }

    /** "a number of one to five digits"; "2 a sixth digit, at it". */
    private static void digits() {
        for (int n = 1; n <= 8; n++) {
            String number = Edges.rows(n, "0", "");
            int more = n - 5;
            Due.is("c" + number, law("c" + number + "(1=1)"), more <= 0 ? 1 : Edges.fault(2, 6));
            Due.is("s(" + number, law("s(" + number + "=1)"), more <= 0 ? 1 : Edges.fault(2, 7));
            Due.is("s(h<" + number, law("s(h<" + number + ")"), more <= 0 ? 1 : Edges.fault(2, 9));
            Due.is("c[h*" + number, law("c[h*" + number + "](1=1)"), more <= 0 ? 1 : Edges.fault(2, 9));
        }
        Due.is("the greatest number", Due.king("", "c99999-99901(1=1)").count(100), 98);
        Due.is("naughts ahead", Due.king("", "c00099-00001(1=1)").count(100), 98);
        Due.is("99999 is more than 99998", Due.king("", "c5(99999>99998)").count(100), 5);
    }

    /** Each byte behind a text: of goOn the end is the FAULT; others by pairs (signs, answer); else it is FAULT 1. */
    private static void behind(String ahead, String goOn, String... others) {
        for (int b = 0; b < 256; b++) {
            int due = Edges.fault(1, ahead.length() + (Edges.has(goOn, b) ? 1 : 0));
            for (int i = 0; i < others.length; i += 2) {
                due = Edges.has(others[i], b) ? Integer.parseInt(others[i + 1]) : due;
            }
            Due.is("law " + ahead + " and byte " + b, law(ahead + (char) b), due);
        }
    }

    /** "1 what can't stand there (the end, too)": each byte at each kind of place. */
    private static void everyByteOfARule() {
        behind("", "ces");
        behind("s", "(");
        behind("c", DIGITS + LETTERS + "[");
        behind("e", DIGITS + LETTERS + "[");
        behind("s(1=1)", ";");
        behind("s(1=1);", "ces");
        behind("c5(1=1);s", "(");
    }

    private static void everyByteOfAnE() {
        behind("c5", DIGITS + SUMS + "(");
        behind("eh", SUMS + "(");
        behind("c5+", DIGITS + LETTERS + "[");
        behind("c5*", DIGITS + LETTERS + "[");
        behind("c[", DIGITS + LETTERS + "[");
        behind("c[5", DIGITS + SUMS + "]");
        behind("c[v", SUMS + "]");
        behind("c[5]", SUMS + "(");
        behind("c[[5]", SUMS + "]");
        behind("s([5", DIGITS + SUMS + "]");
        behind("s([5]", SUMS + "<>=");
        behind("s(1=[5", DIGITS + SUMS + "]");
        behind("s(1=[5]", SUMS + "&|", ")", "1");
    }

    private static void everyByteOfAC() {
        String test = DIGITS + LETTERS + "[(!";
        behind("s(", test);
        behind("c5(", test);
        behind("s(!", test);
        behind("s(!!", test);
        behind("s((", test);
        behind("s(1=1&", test);
        behind("s(1=1|", test);
        behind("s(1", DIGITS + SUMS + "<>=");
        behind("s(h", SUMS + "<>=");
        behind("s(!h", SUMS + "<>=");
        behind("s(1=", DIGITS + LETTERS + "[");
        behind("s(1<", DIGITS + LETTERS + "[");
        behind("s(1=1", DIGITS + SUMS + "&|", ")", "1");
        behind("s(1=h", SUMS + "&|", ")", "1");
        behind("s(!1=1", DIGITS + SUMS + "&|", ")", "1");
        behind("s((1=1", DIGITS + SUMS + "&|)");
        behind("s((1=1)", "&|", ")", "1");
        behind("s(!(1=1)", "&|", ")", "1");
        behind("s(((1=1)", "&|)");
    }

    private static void everyByteAtTheLimits() {
        behind("c1234", DIGITS + SUMS + "(");
        behind("c12345", SUMS + "(", DIGITS, "-2006");
        behind("s(12345", SUMS + "<>=", DIGITS, "-2007");
        behind("s(1=12345", SUMS + "&|", DIGITS, "-2009", ")", "1");
        behind(SIXTEEN, ";");
        behind(SIXTEEN + ";", "", "ces", "-4112");
        behind("s(((((", DIGITS + LETTERS + "[(!");
        behind("s((((((", DIGITS + LETTERS, "[(!", "-5007");
        behind("s(!!!!!", DIGITS + LETTERS, "[(!", "-5007");
        behind("s((((((1=", DIGITS + LETTERS, "[", "-5009");
        behind("s((((((1+", DIGITS + LETTERS, "[", "-5009");
        behind("s((((((1=1&", DIGITS + LETTERS, "[(!", "-5011");
        behind("s(!!!!!1=1&", DIGITS + LETTERS + "[(!");
        behind("c[[[[[", DIGITS + LETTERS + "[");
        behind("c[[[[[[", DIGITS + LETTERS, "[", "-5007");
    }

    /** "5 a seventh of ( [ ! that are open in one another, at it (the ( of the RULE counts ..)". */
    private static void openInOneAnother() {
        for (int tests = 0; tests <= 7; tests++) {
            for (int bits = 0; bits < 1 << tests; bits++) {
                for (int angled = 0; angled <= 7; angled++) {
                    String text = "s(" + opening(tests, bits) + "[".repeat(angled) + "h" + "]".repeat(angled) + "=h"
                        + closing(tests, bits) + ")";
                    int due = 1 + tests + angled <= 6 ? 1 : Edges.fault(5, 7);
                    Due.is("law " + text, law(text), due);
                }
            }
        }
    }

    private static String opening(int tests, int bits) {
        StringBuilder s = new StringBuilder();
        for (int i = 0; i < tests; i++) {
            s.append((bits >> i & 1) == 0 ? '(' : '!');
        }
        return s.toString();
    }

    private static String closing(int tests, int bits) {
        return ")".repeat(tests - Integer.bitCount(bits));
    }

    /** "a ! is open till its TEST ends", so also in the E behind a comparison. */
    private static void openInTheSecondE() {
        for (int tests = 0; tests <= 5; tests++) {
            for (int bits = 0; bits < 1 << tests; bits++) {
                for (int angled = 1; angled <= 6; angled++) {
                    String text = "s(" + opening(tests, bits) + "h=" + "[".repeat(angled) + "h" + "]".repeat(angled)
                        + closing(tests, bits) + ")";
                    int due = 1 + tests + angled <= 6 ? 1 : Edges.fault(5, 9);
                    Due.is("law " + text, law(text), due);
                }
            }
        }
    }

    /** "the E of a RULE stands ahead of it", of its (. */
    private static void openInTheEOfARule() {
        for (char letter : new char[] {'c', 'e'}) {
            for (int angled = 0; angled <= 9; angled++) {
                String text = letter + "[".repeat(angled) + "5" + "]".repeat(angled) + "((((((1=1))))))";
                Due.is("law " + text, law(text), angled <= 6 ? 1 : Edges.fault(5, 7));
            }
        }
        Due.is("in a second RULE", law("s(1=1);c[[[[[[[1"), Edges.fault(5, 14));
        Due.is("in a second RULE", law("s(1=1);c[[[[[[1]]]]]](1=1)"), 2);
        Due.is("behind a sum", law("c1+[2*[3-[4/[5%[6+[7]]]]]](1=1)"), 1);
        Due.is("behind a sum", law("c1+[2*[3-[4/[5%[6+[7*[8"), Edges.fault(5, 21));
    }

    /** What has been closed is no more open: side by side there may be any number. */
    private static void openSideBySide() {
        String six = "!(!([1]=1))";
        Due.is("side by side", law("s(" + Edges.rows(10, six, "&") + ")"), 1);
        Due.is("by |", law("s(" + Edges.rows(10, six, "|") + ")"), 1);
        Due.is("a ! ends with its TEST", law("s(" + Edges.rows(20, "!!!!!1=1", "&") + ")"), 1);
        Due.is("a ! ends with its TEST", law("s(" + Edges.rows(20, "!!!!!1=1", "|") + ")"), 1);
        Due.is("[ after [", law("s([[[[[1]]]]]+[[[[[1]]]]]*[[[[[1]]]]]=[[[[[1]]]]])"), 1);
        Due.is("RULE after RULE", law(Edges.rows(8, "c[[[[[[1]]]]]]((((((1=1))))))", ";")), 8);
        Due.is("one deeper in the second TEST", law("s(!!!!!1=1&!!!!!!1=1)"), Edges.fault(5, 16));
        Due.is("one deeper behind a bracket", law("s((((((1=1)&((1=1)))))))"), Edges.fault(5, 13));
    }

    /** "FAULTS, the first from the left". */
    private static void faultsFromTheLeft() {
        Due.is("1 ahead of 2", law("cz123456(1=1)"), Edges.fault(1, 1));
        Due.is("2 ahead of 1", law("c123456x"), Edges.fault(2, 6));
        Due.is("5 ahead of 2", law("s(((((((123456"), Edges.fault(5, 7));
        Due.is("2 ahead of 5", law("s(123456(((((((("), Edges.fault(2, 7));
        Due.is("2 ahead of 4", law("c123456(1=1);" + SIXTEEN), Edges.fault(2, 6));
        Due.is("4 ahead of 1", law(SIXTEEN + ";s" + (char) 0), Edges.fault(4, 112));
        Due.is("1 ahead of 4", law("s(1=1),s(1=1);" + SIXTEEN), Edges.fault(1, 6));
    }

    /** "a FAULT .. (the one before stays)"; and it leaves nothing behind for the next one. */
    private static void theOneBeforeStays() {
        String[] faults = {"x", "c9", "c9(1=1);", "s((((((", "c[[[[[[1", "s(!!!!!!", "c123456", SIXTEEN + ";c",
            "c1(1=1);c2(1=1);c3(1=", "s(1=1&", "s([1+2*"};
        for (String text : faults) {
            BronzeKing king = Due.king("", "c4(h=3);e1(1=1);s(m>3)");
            Due.is("a FAULT in " + text, Due.law(king, text) < -1, true);
            Due.is("RULES", king.count(4), 3);
            Due.is("c in HOUR 3", king.count(103), 4);
            Due.is("c in all", king.count(8), 4);
            Due.is("a DAY by it, four STEPS out", king.days(1), 8);
            Due.is("the tape is empty", king.count(5), 0);
            Due.is("the next one", Due.law(king, "c[[[[[[8]]]]]]((((((h=1))))))"), 1);
            Due.is("holds", king.count(101), 8);
            Due.is("alone", king.count(8), 8);
        }
    }

    /** "in place of the one before". */
    private static void inPlaceOfTheOneBefore() {
        BronzeKing king = Due.king("", "c5(h=1);c6(h=2);c7(1=1);e1(1=1);s(m>9)");
        Due.is("a shorter one", Due.law(king, "c5(h=1)"), 1);
        Due.is("it holds", king.count(101), 5);
        Due.is("it alone", king.count(8), 5);
        Due.is("no e", king.days(3), 0);
        Due.is("a longer one", Due.law(king, "c5(h=1);c6(h=2);c7(h=3);e1(1=1)"), 4);
        Due.is("it holds", king.count(8), 18);
        Due.is("no s", king.days(1), 60);
        Due.is("one of s alone", Due.law(king, "s(1=1)"), 1);
        Due.is("no c", king.count(8), 0);
        for (int more = 0; more < 30; more++) {
            BronzeKing left = Due.king("", "c1" + "+1".repeat(50) + "(1" + "+1".repeat(50) + "=51)");
            String shorter = "c7" + "-0".repeat(more) + "(2" + "*1".repeat(more / 2) + "=2)";
            Due.is("a shorter one", Due.law(left, shorter), 1);
            Due.is("nothing of the longer one is left", left.count(8), 168);
        }
    }

    /** Law upon law, right ones and others, as many as there may be calls. */
    private static void manyLaws() {
        BronzeKing king = new BronzeKing();
        String text = "c9-d(" + Edges.rows(8, "h<20", "&") + ");e1(1=1)";
        for (int i = 0; i < 60; i++) {
            Due.is("law " + i, Due.law(king, i % 3 == 2 ? text + "x" : text), i % 3 == 2 ? -1000 - text.length() : 2);
        }
        Due.is("the last one holds", king.count(8), 180);
    }
}
