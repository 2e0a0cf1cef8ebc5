import java.nio.charset.StandardCharsets;
import java.util.Arrays;

/** Tells every answer that is not the one due, and ends with exit code 1 if there was one. */
final class Due {
    private static int asked = 0;
    private static int wrong = 0;

    private Due() {
    }

    static void is(String call, long got, long want) {
        asked++;
        if (got != want) {
            wrong++;
            System.out.println(call + " answered " + got + ", due is " + want);
        }
    }

    static void is(String call, boolean got, boolean want) {
        is(call, got ? 1 : 0, want ? 1 : 0);
    }

    static boolean isClean() {
        return wrong == 0;
    }

    static void end() {
        System.out.println(asked + " answers asked, " + wrong + " wrong");
        if (wrong != 0 || asked == 0) {
            System.exit(1);
        }
    }

    /** Feeds a text, filled up with the byte 'a' to a multiple of twenty bytes. */
    static int feed(BronzeKing king, String text) {
        return feed(king, text.getBytes(StandardCharsets.ISO_8859_1));
    }

    static int feed(BronzeKing king, byte[] text) {
        int answer = BronzeKing.NONE;
        for (int[] words : words(text)) {
            answer = king.feed(words[0], words[1], words[2], words[3], words[4]);
        }
        return answer;
    }

    static int[][] words(byte[] text) {
        int rows = (text.length + 19) / 20;
        byte[] full = Arrays.copyOf(text, 20 * rows);
        Arrays.fill(full, text.length, full.length, (byte) 'a');
        int[][] words = new int[rows][5];
        for (int i = 0; i < full.length; i++) {
            int word = i / 4;
            words[word / 5][word % 5] = words[word / 5][word % 5] << 8 | full[i] & 255;
        }
        return words;
    }

    static int law(BronzeKing king, String text) {
        feed(king, text);
        return king.law(text.length());
    }

    static int map(BronzeKing king, String text) {
        feed(king, text);
        return king.map(text.length());
    }

    static int notes(BronzeKing king, String text) {
        feed(king, text);
        return king.notes(text.length());
    }

    static BronzeKing king(String mapText, String lawText) {
        BronzeKing king = new BronzeKing();
        if (!mapText.isEmpty()) {
            is("map " + mapText, map(king, mapText) > 0, true);
        }
        if (!lawText.isEmpty()) {
            is("law " + lawText, law(king, lawText) > 0, true);
        }
        return king;
    }
}
