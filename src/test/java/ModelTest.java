import java.nio.charset.StandardCharsets;
import java.util.ArrayList;
import java.util.List;
import java.util.Random;

/** Runs of calls at random (always the same ones), each answer held against the model's. */
public final class ModelTest {
    private final Random random;
    private final Texts texts;
    private final List<String> told = new ArrayList<>();
    private BronzeKing king = new BronzeKing();
    private Model model = new Model();

    private ModelTest(long seed) {
        random = new Random(seed);
        texts = new Texts(random);
    }

    public static void main(String[] args) {
        int runs = args.length > 0 ? Integer.parseInt(args[0]) : 1500;
        int first = args.length > 1 ? Integer.parseInt(args[1]) : 0;
        for (int seed = first; seed < first + runs && Due.isClean(); seed++) {
            new ModelTest(seed).run(seed);
        }
        Due.end();
    }

    private void run(int seed) {
        // An object is good for 512 calls, and one round may make some twenty.
        for (int i = 0; i < 110 && told.size() < 480 && Due.isClean(); i++) {
            call();
        }
        if (!Due.isClean()) {
            System.out.println("in the run by seed " + seed + ":");
            told.forEach(line -> System.out.println("  " + line));
        }
    }

    private int below(int n) {
        return random.nextInt(n);
    }

    /** Mostly from 0 to most, at times beside it. */
    private int about(int most) {
        switch (below(40)) {
            case 0: return -1 - below(3);
            case 1: return most + 1 + below(3);
            case 2: return below(2) == 0 ? Integer.MIN_VALUE : Integer.MAX_VALUE;
            default: return below(most + 1);
        }
    }

    private void due(String call, long got, long want) {
        told.add(call + " " + want);
        Due.is(call, got, want);
    }

    private void due(String call, boolean got, boolean want) {
        due(call, got ? 1 : 0, want ? 1 : 0);
    }

    private void feed(byte[] text) {
        for (int[] w : Due.words(text)) {
            due("feed(..)", king.feed(w[0], w[1], w[2], w[3], w[4]), model.feed(w[0], w[1], w[2], w[3], w[4]));
        }
    }

    private int feed(String text) {
        told.add(text);
        feed(text.getBytes(StandardCharsets.ISO_8859_1));
        return below(30) == 0 ? about(260) : text.length();
    }

    private void feedBytes(int length, int most) {
        byte[] bytes = new byte[length];
        for (int i = 0; i < length; i++) {
            bytes[i] = (byte) below(most);
        }
        feed(bytes);
    }

    private void call() {
        switch (below(12)) {
            case 0:
            case 1: setTown(); break;
            case 2: setTexts(); break;
            case 3: letDaysGo(); break;
            case 4: askHours(); break;
            case 5: askTape(); break;
            case 6: askRows(); break;
            default: askPlaces(); break;
        }
    }

    private void setTown() {
        int x = about(11);
        int y = about(7);
        int k = about(9);
        if (below(3) == 0) {
            due("square(" + x + ", " + y + ")", king.square(x, y), model.square(x, y));
        } else if (below(2) == 0) {
            due("door(" + k + ", " + x + ", " + y + ")", king.door(k, x, y), model.door(k, x, y));
        } else {
            int n = feed(texts.map());
            due("map(" + n + ")", king.map(n), model.map(n));
        }
    }

    private void setTexts() {
        if (below(4) == 0) {
            int n = feed(texts.notes());
            due("notes(" + n + ")", king.notes(n), model.notes(n));
        } else {
            int n = feed(texts.law());
            due("law(" + n + ")", king.law(n), model.law(n));
        }
    }

    private void letDaysGo() {
        int n = below(3) == 0 ? about(30) : 1 + below(3);
        int x = about(65535);
        switch (below(6)) {
            case 0: due("seed(" + x + ")", king.seed(x), model.seed(x)); break;
            case 1: due("keep()", king.keep(), model.keep()); break;
            case 2: due("undo()", king.undo(), model.undo()); break;
            case 3:
                int what = below(2) == 0 ? about(3) : 100 + about(95);
                due("tried(" + n + ", " + what + ")", king.tried(n, what), model.tried(n, what));
                break;
            default: due("days(" + n + ")", king.days(n), model.days(n)); break;
        }
    }

    private void askHours() {
        int hour = about(23);
        int k = about(6);
        int what = about(2);
        int hundredths = about(100);
        due("likely(" + hour + ", " + what + ")", king.likely(hour, what), model.likely(hour, what));
        due("watch(" + k + ", " + what + ")", king.watch(k, what), model.watch(k, what));
        due("sure(" + hundredths + ")", king.sure(hundredths), model.sure(hundredths));
    }

    private void askTape() {
        int n = about(12);
        int what = about(1);
        switch (below(4)) {
            case 0:
                feedBytes(2 + below(40), 256);
                due("pigeons(" + what + ")", king.pigeons(what), model.pigeons(what));
                break;
            case 1:
                int y = about(7);
                // Most bytes right, so that also rows that are right come about.
                byte[] row = new byte[12];
                for (int x = 0; x < 12; x++) {
                    row[x] = (byte) (below(15) == 0 ? below(256) : model.placeIs(x, Math.floorMod(y, 8), 1));
                }
                feed(row);
                due("check(" + y + ", " + n + ")", king.check(y, n), model.check(y, n));
                break;
            default:
                int lovers = below(20) == 0 ? about(5) : 2 + below(3);
                feed(new byte[] {(byte) openPlace(), (byte) openPlace(), (byte) openPlace(), (byte) openPlace()});
                due("lovers(" + lovers + ", " + what + ")", king.lovers(lovers, what), model.lovers(lovers, what));
                break;
        }
    }

    private void askRows() {
        int minutes = about(60);
        int what = below(3) == 0 ? 100 + below(3) : about(8);
        due("calls(" + minutes + ", " + what + ")", king.calls(minutes, what), model.calls(minutes, what));
        int bench = 1 + below(2);
        int which = about(2);
        due("benches(" + bench + ", " + which + ")", king.benches(bench, which), model.benches(bench, which));
        due("far(" + minutes + ")", king.far(minutes), model.far(minutes));
        due("worn()", king.worn(), model.worn());
    }

    private int openPlace() {
        int place = about(95);
        for (int i = 0; i < 20 && below(20) > 0 && model.placeIs(place % 12, place / 12, 0) != 2; i++) {
            place = about(95);
        }
        return place;
    }

    private void askPlaces() {
        int x = about(11);
        int y = about(7);
        int what = about(4);
        due("placeIs(" + x + ", " + y + ", " + what + ")", king.placeIs(x, y, what), model.placeIs(x, y, what));
        due("old(" + x + ", " + y + ")", king.old(x, y), model.old(x, y));
        int how = about(1);
        due("barred(" + x + ", " + y + ", " + how + ")", king.barred(x, y, how), model.barred(x, y, how));
        int street = about(6);
        due("streets(" + street + ")", king.streets(street), model.streets(street));
        int part = below(2) == 0 ? about(59) : 99 + below(6);
        due("walk(" + part + ")", king.walk(part), model.walk(part));
        int thing = about(130);
        due("count(" + thing + ")", king.count(thing), model.count(thing));
        if (below(6) == 0) {
            int from = openPlace();
            int to = openPlace();
            due("chase(" + from + ", " + to + ")", king.chase(from, to), model.chase(from, to));
        }
    }
}
