import java.util.Arrays;

/**
 * The hours of a bronze king who comes down for one hour a day and goes about a town.
 * The promises stand in DOC.md; the words in capitals are its terms.
 */
public final class BronzeKing {
    public static final int NONE = -1;

    // An answer that is asked for rightly, but that nothing can be told of.
    private static final int NOTHING = -2;
    private static final int BAD_PLACE = -3;
    private static final int NO_SUCH_CALL = -4;

    private static final int WIDE = 12;
    private static final int HIGH = 8;
    private static final int PLACES = 96;
    private static final int WAYS = 4;
    // More than any way in the town can have, and than any MINUTES.
    private static final int NO_WAY = 99;

    // In this order a PLACE can be stood on when its kind is at least some floor.
    private static final int OLD_WALL = 0;
    private static final int NEW_WALL = 1;
    private static final int OPEN = 2;

    private static final int DOORS = 9;
    private static final int HOURS = 24;
    private static final int MINUTES = 60;
    private static final int MOST_WEAR = 9999;
    private static final int LAST_DAY = 9999;
    private static final int MOST_DAYS = 30;

    private static final int LONGEST_LAW = 240;
    private static final int LONGEST_MAP = 110;
    private static final int LONGEST_NOTES = 90;
    private static final int MOST_RULES = 16;

    private final Tape tape = new Tape();
    private final Town town = new Town();
    private final Law theLaw = new Law();
    private final LawReader lawReader = new LawReader();
    private final Walker walker = new Walker(town, theLaw);
    private final Vigil vigil = new Vigil(theLaw);
    private final Survey survey = new Survey(town);
    private final Hunt hunt = new Hunt(town);
    private final Rounds rounds = new Rounds(town);
    private final Course now = new Course();
    private final Course kept = new Course();
    private final Course trial = new Course();
    private boolean hasKept = false;

    public BronzeKing() {
        town.refresh();
    }

    public boolean square(int x, int y) {
        int place = placeAt(x, y);
        if (place == NONE) {
            return false;
        }
        town.squareAt = place;
        town.refresh();
        return true;
    }

    public boolean door(int k, int x, int y) {
        int place = placeAt(x, y);
        if (place == NONE || k < 1 || k > DOORS) {
            return false;
        }
        town.doorAt[k] = place;
        town.told |= 1 << k;
        town.refresh();
        return true;
    }

    public int feed(int a, int b, int c, int d, int e) {
        if (!tape.hasRoomForFive()) {
            return NONE;
        }
        tape.addInt(a);
        tape.addInt(b);
        tape.addInt(c);
        tape.addInt(d);
        tape.addInt(e);
        return tape.size;
    }

    public int law(int n) {
        if (!tape.canGive(n, 1, LONGEST_LAW)) {
            return NONE;
        }
        int answer = lawReader.read(tape, n);
        tape.size = 0;
        if (answer > 0) {
            theLaw.take(lawReader);
        }
        return answer;
    }

    public int map(int n) {
        if (!tape.canGive(n, 1, LONGEST_MAP)) {
            return NONE;
        }
        int answer = town.readMap(tape, n);
        tape.size = 0;
        return answer;
    }

    public int notes(int n) {
        if (!tape.canGive(n, 1, LONGEST_NOTES)) {
            return NONE;
        }
        int answer = vigil.read(tape, n);
        tape.size = 0;
        return answer;
    }

    public int days(int n) {
        if (n < 1 || n > MOST_DAYS) {
            return NONE;
        }
        int steps = 0;
        for (int i = 0; i < n && walker.goDay(now); i++) {
            steps += now.steps;
        }
        return steps;
    }

    public int tried(int n, int what) {
        boolean ofPlace = what >= 100 && what < 100 + PLACES;
        if (n < 1 || n > MOST_DAYS || what < 0 || (what > 3 && !ofPlace)) {
            return NONE;
        }
        trial.take(now);
        int steps = 0;
        int came = 0;
        int called = 0;
        int lastHour = NOTHING;
        for (int i = 0; i < n && walker.goDay(trial); i++) {
            steps += trial.steps;
            came += trial.hour >= 0 ? 1 : 0;
            called += Integer.bitCount(trial.called);
            lastHour = trial.hour;
        }
        if (ofPlace) {
            return trial.wear[what - 100];
        }
        switch (what) {
            case 0: return steps;
            case 1: return came;
            case 2: return called;
            default: return lastHour;
        }
    }

    public int placeIs(int x, int y, int what) {
        int place = placeAt(x, y);
        if (place == NONE) {
            return NONE;
        }
        switch (what) {
            case 0: return town.kindOf(place);
            case 1: return now.wear[place];
            case 2: return town.home[place];
            case 3: return town.toNine[place];
            case 4: return town.openBeside(place);
            default: return NONE;
        }
    }

    public int likely(int hour, int what) {
        if (hour < 0 || hour >= HOURS || what < 0 || what > 1) {
            return NONE;
        }
        vigil.weigh(now.day);
        if (vigil.isWatched(hour) || vigil.unwatchedWeight == 0) {
            return NOTHING;
        }
        return partOfFraction(vigil.weights[hour], vigil.unwatchedWeight, what == 0);
    }

    public int watch(int k, int what) {
        if (k < 1 || k > 6 || what < 0 || what > 2) {
            return NONE;
        }
        vigil.weigh(now.day);
        if (HOURS - Integer.bitCount(vigil.watched) < k || vigil.unwatchedWeight == 0) {
            return NOTHING;
        }
        for (int i = 0; i < k; i++) {
            vigil.pickHeaviest();
        }
        if (what == 0) {
            return vigil.picked;
        }
        return partOfFraction(vigil.pickedWeight, vigil.unwatchedWeight, what == 1);
    }

    public int sure(int hundredths) {
        if (hundredths < 1 || hundredths > 100) {
            return NONE;
        }
        vigil.weigh(now.day);
        if (vigil.unwatchedWeight == 0) {
            return NOTHING;
        }
        int hours = 0;
        while (hours < HOURS && vigil.pickedWeight * 100 < hundredths * vigil.unwatchedWeight) {
            vigil.pickHeaviest();
            hours++;
        }
        return hours;
    }

    public int walk(int what) {
        boolean ofMinute = what >= 0 && what < MINUTES;
        if (!ofMinute && (what < 100 || what > 103)) {
            return NONE;
        }
        if (now.hour < 0) {
            return NOTHING;
        }
        if (ofMinute) {
            return now.wasAt[what];
        }
        switch (what) {
            case 100: return now.hour;
            case 101: return now.steps;
            case 102: return now.called;
            default: return now.farthest;
        }
    }

    public int worn() {
        int most = 0;
        int answer = NOTHING;
        for (int place = 0; place < PLACES; place++) {
            if (now.wear[place] > most) {
                most = now.wear[place];
                answer = place;
            }
        }
        return answer;
    }

    public int far(int minutes) {
        if (minutes < 0 || minutes > MINUTES) {
            return NONE;
        }
        int most = Math.min(minutes, MINUTES / 2);
        int answer = 0;
        for (int place = 0; place < PLACES; place++) {
            if (town.home[place] <= most) {
                answer++;
            }
        }
        return answer;
    }

    public int calls(int minutes, int what) {
        boolean ofDoor = what >= 0 && what < DOORS;
        if (minutes < 1 || minutes > MINUTES || (!ofDoor && what != 100 && what != 101)) {
            return NONE;
        }
        rounds.choose(minutes);
        if (what == 100) {
            return rounds.many;
        }
        if (what == 101) {
            return rounds.stepsOfBest();
        }
        return rounds.doorOfBest(what);
    }

    public int old(int x, int y) {
        int place = placeAt(x, y);
        if (place == NONE) {
            return NONE;
        }
        int steps = survey.stepsByOldMap(place);
        return steps == NO_WAY ? NOTHING : steps;
    }

    public int barred(int x, int y, int what) {
        int place = placeAt(x, y);
        if (place == NONE || what < 0 || what > 1) {
            return NONE;
        }
        return survey.newWallsTo(place, what == 1);
    }

    public int chase(int king, int thief) {
        if (!town.isOpen(king) || !town.isOpen(thief)) {
            return NONE;
        }
        return hunt.movesToCatch(king, thief);
    }

    public int lovers(int n, int what) {
        if (what < 0 || what > 1 || !tape.canGive(n, 2, 4)) {
            return NONE;
        }
        tape.size = 0;
        survey.forgetLovers();
        for (int i = 0; i < n; i++) {
            int place = tape.bytes[i];
            if (!town.isOpen(place)) {
                return BAD_PLACE;
            }
            survey.addLover(place);
        }
        int answer = survey.meetingPlace();
        return answer == NOTHING || what == 0 ? answer : survey.together[answer];
    }

    public int benches(int n, int what) {
        if (n < 1 || n > 2 || what < 0 || what > 2) {
            return NONE;
        }
        survey.lookAround(now.wear);
        if (n == 1) {
            survey.setOneBench();
        } else {
            survey.setTwoBenches();
        }
        if (survey.nearBenches == 0) {
            return NOTHING;
        }
        switch (what) {
            case 0: return survey.firstBench;
            case 1: return survey.secondBench;
            default: return survey.nearBenches;
        }
    }

    public int pigeons(int what) {
        if (what < 0 || what > 1 || tape.size < HOURS) {
            return NONE;
        }
        tape.size = 0;
        int most = -1;
        int answer = 0;
        for (int hour = 0; hour < HOURS; hour++) {
            int before = tape.bytes[(hour + HOURS - 1) % HOURS];
            int after = tape.bytes[(hour + 1) % HOURS];
            int unlike = Math.abs(2 * tape.bytes[hour] - before - after);
            if (unlike > most) {
                most = unlike;
                answer = hour;
            }
        }
        return what == 0 ? answer : most;
    }

    public int streets(int what) {
        switch (what) {
            case 0: return survey.islands();
            case 1: return survey.deadEnds();
            case 2: return survey.rings();
            case 3: return survey.crossings();
            case 4: return town.open.size();
            case 5:
                survey.findCuts();
                return survey.cuts;
            case 6:
                survey.findCuts();
                return survey.lowestCut;
            default: return NONE;
        }
    }

    public boolean seed(int x) {
        if (x < 0 || x > 65535) {
            return false;
        }
        now.x = x;
        return true;
    }

    public int keep() {
        kept.take(now);
        hasKept = true;
        return now.day;
    }

    public boolean undo() {
        if (!hasKept) {
            return false;
        }
        now.take(kept);
        return true;
    }

    public int check(int y, int n) {
        if (y < 0 || y >= HIGH || !tape.canGive(n, 0, WIDE)) {
            return NOTHING;
        }
        tape.size = 0;
        for (int x = 0; x < n; x++) {
            if (now.wear[y * WIDE + x] % 256 != tape.bytes[x]) {
                return x;
            }
        }
        return NONE;
    }

    public int count(int what) {
        if (what > 10 && what <= 10 + DOORS) {
            return town.doorAt[what - 10];
        }
        if (what >= 100 && what < 100 + HOURS) {
            return theLaw.weightOf(what - 100, now.day);
        }
        switch (what) {
            case 0: return now.day;
            case 1: return vigil.watched;
            case 2: return town.told;
            case 3: return town.squareAt;
            case 4: return theLaw.rules;
            case 5: return tape.size;
            case 6: return now.x;
            case 7: return now.wearOfAll();
            case 8: return theLaw.weightOfAll(now.day);
            default: return NONE;
        }
    }

    private static int placeAt(int x, int y) {
        boolean inTown = x >= 0 && x < WIDE && y >= 0 && y < HIGH;
        return inTown ? WIDE * y + x : NONE;
    }

    /** The PLACE beside one: up, right, down, left (way 0 to 3); NONE beyond the town's edge. */
    private static int beside(int place, int way) {
        int x = place % WIDE;
        switch (way) {
            case 0: return place >= WIDE ? place - WIDE : NONE;
            case 1: return x < WIDE - 1 ? place + 1 : NONE;
            case 2: return place < PLACES - WIDE ? place + WIDE : NONE;
            default: return x > 0 ? place - 1 : NONE;
        }
    }

    private static int faultAt(int number, int at) {
        return -1000 * number - at;
    }

    private static boolean isDigit(int sign) {
        return sign >= '0' && sign <= '9';
    }

    private static int partOfFraction(int above, int below, boolean isAbove) {
        int divisor = below;
        int rest = above;
        // Euclid's way halves the numbers every two rounds, so 64 rounds are plenty.
        for (int i = 0; i < 64 && rest != 0; i++) {
            int next = divisor % rest;
            divisor = rest;
            rest = next;
        }
        if (divisor == 0) {
            return 0;
        }
        return (isAbove ? above : below) / divisor;
    }

    /** The bytes that have been fed and not yet been used. */
    private static final class Tape {
        private static final int LONGEST = 260;
        private static final int FED = 20;
        private final int[] bytes = new int[LONGEST];
        private int size = 0;

        boolean hasRoomForFive() {
            return size + FED <= LONGEST;
        }

        void addInt(int four) {
            for (int shift = 24; shift >= 0 && size < LONGEST; shift -= 8) {
                bytes[size] = (four >>> shift) & 255;
                size++;
            }
        }

        boolean canGive(int n, int fewest, int most) {
            return n >= fewest && n <= most && n <= size;
        }

        /** The byte at a place of a text of so many bytes; NONE at its end. */
        int at(int place, int length) {
            return place >= 0 && place < length && place < LONGEST ? bytes[place] : NONE;
        }
    }

    /** A set of PLACES: 48 bits for the upper four rows, 48 for the lower four. */
    private static final class PlaceSet {
        private static final int HALF = 48;
        private static final long ALL = 0xFFFFFFFFFFFFL;
        private static final long FIRST_ROW = 0xFFFL;
        private static final long FIRST_COLUMN = 0x001001001001L;
        private static final long LAST_COLUMN = 0x800800800800L;
        private long upper = 0;
        private long lower = 0;

        void clear() {
            upper = 0;
            lower = 0;
        }

        void take(PlaceSet other) {
            upper = other.upper;
            lower = other.lower;
        }

        void add(int place) {
            if (place < HALF) {
                upper |= 1L << place;
            } else {
                lower |= 1L << (place - HALF);
            }
        }

        void drop(int place) {
            if (place < HALF) {
                upper &= ~(1L << place);
            } else {
                lower &= ~(1L << (place - HALF));
            }
        }

        boolean has(int place) {
            long bits = place < HALF ? upper >>> place : lower >>> (place - HALF);
            return (bits & 1L) != 0;
        }

        void join(PlaceSet other) {
            upper |= other.upper;
            lower |= other.lower;
        }

        void meet(PlaceSet other) {
            upper &= other.upper;
            lower &= other.lower;
        }

        /** What of the whole is not in it. */
        void turnWithin(PlaceSet whole) {
            upper = whole.upper & ~upper;
            lower = whole.lower & ~lower;
        }

        /** Its PLACES and all beside them. */
        void grow() {
            long top = upper;
            long bottom = lower;
            upper = top | besideInRows(top) | (top >>> WIDE) | ((top << WIDE) & ALL)
                | ((bottom & FIRST_ROW) << (HALF - WIDE));
            lower = bottom | besideInRows(bottom) | (bottom >>> WIDE) | ((bottom << WIDE) & ALL)
                | (top >>> (HALF - WIDE));
        }

        private static long besideInRows(long bits) {
            return ((bits & ~LAST_COLUMN) << 1) | ((bits & ~FIRST_COLUMN) >>> 1);
        }

        /** Its PLACES and all that can be come to from them within the whole. */
        void flood(PlaceSet whole) {
            boolean grows = true;
            for (int i = 0; i < PLACES && grows; i++) {
                long top = upper;
                long bottom = lower;
                grow();
                meet(whole);
                grows = top != upper || bottom != lower;
            }
        }

        int size() {
            return Long.bitCount(upper) + Long.bitCount(lower);
        }

        int sizeWith(PlaceSet other) {
            return Long.bitCount(upper | other.upper) + Long.bitCount(lower | other.lower);
        }
    }

    /** The map, THE SQUARE and the DOORS, and the ways between them. */
    private static final class Town {
        private static final int MOST_ROWS = 8;
        private final int[] kinds = new int[PLACES];
        private final int[] draft = new int[PLACES];
        private final int[] doorAt = new int[DOORS + 1];
        private final int[] home = new int[PLACES];
        private final int[] toNine = new int[PLACES];
        private final int[] queue = new int[PLACES];
        private final PlaceSet open = new PlaceSet();
        private int squareAt = 0;
        private int told = 0;
        // Grows with every change, so that what was reckoned from the town can be known as stale.
        private int changes = 0;

        Town() {
            Arrays.fill(kinds, OPEN);
            Arrays.fill(doorAt, NONE);
        }

        void refresh() {
            open.clear();
            for (int place = 0; place < PLACES; place++) {
                if (isOpen(place)) {
                    open.add(place);
                }
            }
            spread(squareAt, OPEN, home);
            spread(doorAt[DOORS], OPEN, toNine);
            changes++;
        }

        /** The kind of a PLACE; what lies outside of the town is as an OLD wall. */
        int kindOf(int place) {
            if (place < 0 || place >= PLACES) {
                return OLD_WALL;
            }
            return place == squareAt ? OPEN : kinds[place];
        }

        boolean isOpen(int place) {
            return kindOf(place) == OPEN;
        }

        int openBeside(int place) {
            int answer = 0;
            for (int way = 0; way < WAYS; way++) {
                if (isOpen(beside(place, way))) {
                    answer++;
                }
            }
            return answer;
        }

        /** How many STEPS each PLACE is from one, if PLACES of at least that kind are gone over. */
        void spread(int from, int floor, int[] steps) {
            Arrays.fill(steps, NO_WAY);
            if (from < 0 || from >= PLACES || kindOf(from) < floor) {
                return;
            }
            steps[from] = 0;
            queue[0] = from;
            int size = 1;
            for (int i = 0; i < size && i < PLACES; i++) {
                int here = queue[i];
                for (int way = 0; way < WAYS; way++) {
                    int next = beside(here, way);
                    if (next >= 0 && kindOf(next) >= floor && steps[next] == NO_WAY && size < PLACES) {
                        steps[next] = steps[here] + 1;
                        queue[size] = next;
                        size++;
                    }
                }
            }
        }

        /** The first STEP of a shortest way to THE SQUARE. */
        int stepHome(int place) {
            for (int way = 0; way < WAYS; way++) {
                int next = beside(place, way);
                if (isOpen(next) && home[next] < home[place]) {
                    return next;
                }
            }
            return place;
        }

        /** Reads A MAP: how many ROWS, or a FAULT, by which the map stays as it was. */
        int readMap(Tape tape, int n) {
            Arrays.fill(draft, OPEN);
            int row = 0;
            int across = 0;
            int many = 0;
            int signAt = 0;
            for (int at = 0; at < n; at++) {
                int sign = tape.at(at, n);
                int kind = kindBySign(sign);
                boolean isMany = many == 0 && sign >= '2' && sign <= '9';
                boolean endsRow = sign == '/' && across > 0 && many == 0;
                if (kind == NONE && !isMany && !endsRow) {
                    return faultAt(1, at);
                }
                if (endsRow) {
                    row++;
                    across = 0;
                    continue;
                }
                if (row == MOST_ROWS) {
                    return faultAt(4, at);
                }
                signAt = many == 0 ? at : signAt;
                if (isMany) {
                    many = sign - '0';
                    continue;
                }
                int end = across + Math.max(many, 1);
                if (end > WIDE) {
                    return faultAt(6, signAt);
                }
                for (; across < end; across++) {
                    draft[row * WIDE + across] = kind;
                }
                many = 0;
            }
            if (across == 0 || many > 0) {
                return faultAt(1, n);
            }
            System.arraycopy(draft, 0, kinds, 0, PLACES);
            refresh();
            return row + 1;
        }

        private static int kindBySign(int sign) {
            switch (sign) {
                case '.': return OPEN;
                case '#': return OLD_WALL;
                case '+': return NEW_WALL;
                default: return NONE;
            }
        }
    }

    /** THE LAW as a code for a stack: one instruction is an operation and, above its four bits, a number. */
    private static final class Law {
        private static final int NUMBER = 0;
        private static final int LETTER = 1;
        private static final int ADD = 2;
        private static final int LESSEN = 3;
        private static final int TIMES = 4;
        private static final int DIVIDE = 5;
        private static final int REST = 6;
        private static final int BELOW = 7;
        private static final int ABOVE = 8;
        private static final int EVEN = 9;
        private static final int NOT = 10;
        // AND, OR leap over what stands behind them, to the number, if what stands ahead decides.
        private static final int AND = 11;
        private static final int OR = 12;
        private static final int BITS = 4;

        private static final String LETTERS = "hdmxywnbv";
        private static final int DEEPEST = 64;
        private static final int MOST_WEIGHT = 99;
        private static final int MOST_LIKING = 9999;

        private final int[] code = new int[LONGEST_LAW];
        // The E of RULE r starts at 2r, its C at 2r + 1.
        private final int[] starts = new int[2 * MOST_RULES + 1];
        private final int[] kinds = new int[MOST_RULES];
        private int rules = 0;
        private final int[] values = new int[9];
        private final int[] stack = new int[DEEPEST];

        void take(LawReader reader) {
            System.arraycopy(reader.code, 0, code, 0, LONGEST_LAW);
            System.arraycopy(reader.starts, 0, starts, 0, 2 * MOST_RULES + 1);
            System.arraycopy(reader.kinds, 0, kinds, 0, MOST_RULES);
            rules = reader.rules;
        }

        int weightOf(int hour, int day) {
            Arrays.fill(values, 0);
            setHour(hour, day);
            return valueOf('c', MOST_WEIGHT);
        }

        int weightOfAll(int day) {
            int answer = 0;
            for (int hour = 0; hour < HOURS; hour++) {
                answer += weightOf(hour, day);
            }
            return answer;
        }

        boolean standsStill() {
            for (int rule = 0; rule < rules && rule < MOST_RULES; rule++) {
                if (kinds[rule] == 's' && reckon(2 * rule + 1) != 0) {
                    return true;
                }
            }
            return false;
        }

        void setHour(int hour, int day) {
            values[0] = hour;
            values[1] = day % 7;
        }

        void setMinute(int minute, int doorsCalled) {
            values[2] = minute;
            values[8] = doorsCalled;
        }

        void setPlace(int place, int wear, int toNine, int home) {
            values[3] = place % WIDE;
            values[4] = place / WIDE;
            values[5] = wear;
            values[6] = toNine;
            values[7] = home;
        }

        /** The E of the first RULE of that letter whose C holds. */
        int valueOf(int kind, int most) {
            for (int rule = 0; rule < rules && rule < MOST_RULES; rule++) {
                if (kinds[rule] == kind && reckon(2 * rule + 1) != 0) {
                    return Math.max(0, Math.min(most, reckon(2 * rule)));
                }
            }
            return 0;
        }

        /** What a part of the code comes to; 0 if it is REFUSED: so a C does not hold, an E is 0. */
        private int reckon(int part) {
            int size = 0;
            int end = Math.min(starts[part + 1], LONGEST_LAW);
            for (int i = starts[part]; i < end; i++) {
                int operation = code[i] & 15;
                int number = code[i] >>> BITS;
                if (operation == NUMBER || operation == LETTER) {
                    if (size >= DEEPEST || (operation == LETTER && number >= values.length)) {
                        return 0;
                    }
                    stack[size] = operation == NUMBER ? number : values[number];
                    size++;
                } else if (size < 1) {
                    return 0;
                } else if (operation == AND || operation == OR) {
                    boolean decides = (stack[size - 1] != 0) == (operation == OR);
                    i = decides ? Math.max(i, number - 1) : i;
                    size = decides ? size : size - 1;
                } else if (operation == NOT) {
                    stack[size - 1] = 1 - stack[size - 1];
                } else if (size < 2 || (isDivision(operation) && stack[size - 1] == 0)) {
                    return 0;
                } else {
                    size--;
                    stack[size - 1] = joined(operation, stack[size - 1], stack[size]);
                }
            }
            return size > 0 ? stack[0] : 0;
        }

        private static boolean isDivision(int operation) {
            return operation == DIVIDE || operation == REST;
        }

        private static int joined(int operation, int a, int b) {
            switch (operation) {
                case ADD: return a + b;
                case LESSEN: return a - b;
                case TIMES: return a * b;
                case DIVIDE: return b == 0 ? 0 : a / b;
                case REST: return b == 0 ? 0 : a % b;
                case BELOW: return a < b ? 1 : 0;
                case ABOVE: return a > b ? 1 : 0;
                default: return a == b ? 1 : 0;
            }
        }
    }

    /** Reads a law byte by byte; what is open or still has to wait stands on a stack. */
    private static final class LawReader {
        private static final int AT_RULE = 0;
        private static final int AT_BRACKET = 1;
        private static final int AT_TEST = 2;
        private static final int AT_FACTOR = 3;
        private static final int IN_NUMBER = 4;
        private static final int BEHIND_FACTOR = 5;
        private static final int BEHIND_TEST = 6;
        private static final int BEHIND_RULE = 7;

        // Signs that only wait on the stack, beside the operations of the code.
        private static final int ROUND = 13;
        private static final int ANGLED = 14;
        private static final int EMPTY = 15;
        // How closely an operation binds; what is open is never settled by another sign.
        private static final int[] RANKS = {0, 0, 5, 5, 6, 6, 6, 4, 4, 4, 3, 2, 1, 0, 0, 0};

        private static final String ARITHMETIC = "+-*/%";
        private static final String COMPARISONS = "<>=";
        private static final int MOST_OPEN = 6;
        private static final int MOST_DIGITS = 5;
        private static final int DEEPEST = 64;

        private final int[] code = new int[LONGEST_LAW];
        private final int[] starts = new int[2 * MOST_RULES + 1];
        private final int[] kinds = new int[MOST_RULES];
        private final int[] stack = new int[DEEPEST];
        private final int[] leaps = new int[DEEPEST];
        private int rules = 0;
        private int length = 0;
        private int size = 0;
        private int openNow = 0;
        private int state = AT_RULE;
        private int number = 0;
        private int digits = 0;

        /** How many RULES, or a FAULT. */
        int read(Tape tape, int n) {
            rules = 0;
            length = 0;
            size = 0;
            openNow = 0;
            state = AT_RULE;
            for (int at = 0; at < n; at++) {
                int fault = readSign(tape.at(at, n));
                if (fault != 0) {
                    return faultAt(fault, at);
                }
            }
            return state == BEHIND_RULE ? rules : faultAt(1, n);
        }

        /** The FAULT's number, or 0. */
        private int readSign(int sign) {
            if (state == IN_NUMBER && !isDigit(sign)) {
                add(Law.NUMBER, number);
                state = BEHIND_FACTOR;
            }
            switch (state) {
                case AT_RULE: return beginRule(sign);
                case AT_BRACKET: return sign == '(' ? openRule() : 1;
                case AT_TEST: return beginTest(sign);
                case AT_FACTOR: return beginFactor(sign);
                case IN_NUMBER: return goOnNumber(sign);
                case BEHIND_FACTOR: return goOnBehindFactor(sign);
                case BEHIND_TEST: return goOnBehindTest(sign);
                default: return endRule(sign);
            }
        }

        private int beginRule(int sign) {
            if (sign != 'c' && sign != 'e' && sign != 's') {
                return 1;
            }
            if (rules >= MOST_RULES) {
                return 4;
            }
            kinds[rules] = sign;
            starts[2 * rules] = length;
            state = sign == 's' ? AT_BRACKET : AT_FACTOR;
            return 0;
        }

        private int openRule() {
            if (rules < MOST_RULES) {
                starts[2 * rules + 1] = length;
            }
            return open(ROUND);
        }

        private int beginTest(int sign) {
            if (sign == '!') {
                return open(Law.NOT);
            }
            return sign == '(' ? open(ROUND) : beginFactor(sign);
        }

        private int beginFactor(int sign) {
            if (sign == '[') {
                return open(ANGLED);
            }
            if (isDigit(sign)) {
                number = sign - '0';
                digits = 1;
                state = IN_NUMBER;
                return 0;
            }
            int letter = Law.LETTERS.indexOf((char) sign);
            if (letter < 0) {
                return 1;
            }
            add(Law.LETTER, letter);
            state = BEHIND_FACTOR;
            return 0;
        }

        private int goOnNumber(int digit) {
            if (digits >= MOST_DIGITS) {
                return 2;
            }
            number = 10 * number + digit - '0';
            digits++;
            return 0;
        }

        private int goOnBehindFactor(int sign) {
            int operation = ARITHMETIC.indexOf((char) sign);
            if (operation >= 0) {
                settle(RANKS[Law.ADD + operation]);
                return await(Law.ADD + operation, AT_FACTOR);
            }
            // Every other sign that can stand here ends the E.
            settle(RANKS[Law.ADD]);
            int inner = innermost();
            int comparison = COMPARISONS.indexOf((char) sign);
            if (comparison >= 0) {
                boolean canStand = inner != EMPTY && inner != ANGLED && !isComparison(inner);
                return canStand ? await(Law.BELOW + comparison, AT_FACTOR) : 1;
            }
            if (sign == ']') {
                return inner == ANGLED ? close(BEHIND_FACTOR) : 1;
            }
            if (sign == '(') {
                return inner == EMPTY ? openRule() : 1;
            }
            return isComparison(inner) ? goOnBehindTest(sign) : 1;
        }

        private int goOnBehindTest(int sign) {
            if (sign == '&' || sign == '|') {
                int operation = sign == '&' ? Law.AND : Law.OR;
                settle(RANKS[operation]);
                return await(operation, AT_TEST);
            }
            if (sign != ')') {
                return 1;
            }
            settle(RANKS[Law.OR]);
            if (innermost() != ROUND) {
                return 1;
            }
            close(size > 1 ? BEHIND_TEST : BEHIND_RULE);
            if (state == BEHIND_RULE && rules < MOST_RULES) {
                rules++;
                starts[2 * rules] = length;
            }
            return 0;
        }

        private int endRule(int sign) {
            if (sign != ';') {
                return 1;
            }
            state = AT_RULE;
            return 0;
        }

        private int open(int sign) {
            if (openNow >= MOST_OPEN) {
                return 5;
            }
            openNow++;
            push(sign);
            state = sign == ANGLED ? AT_FACTOR : AT_TEST;
            return 0;
        }

        private int close(int nextState) {
            openNow--;
            size--;
            state = nextState;
            return 0;
        }

        private int await(int operation, int nextState) {
            push(operation);
            if (operation == Law.AND || operation == Law.OR) {
                // Where it leaps to is known only when it is settled.
                add(operation, 0);
            }
            state = nextState;
            return 0;
        }

        /** All that waits and binds as closely as that is put into the code. */
        private void settle(int rank) {
            for (int i = 0; i < DEEPEST && RANKS[innermost()] >= rank; i++) {
                size--;
                int operation = stack[size];
                if (operation == Law.AND || operation == Law.OR) {
                    setLeap(leaps[size], operation);
                } else {
                    openNow -= operation == Law.NOT ? 1 : 0;
                    add(operation, 0);
                }
            }
        }

        private void setLeap(int at, int operation) {
            if (at >= 0 && at < LONGEST_LAW) {
                code[at] = operation | (length << Law.BITS);
            }
        }

        private int innermost() {
            return size > 0 && size <= DEEPEST ? stack[size - 1] : EMPTY;
        }

        private static boolean isComparison(int operation) {
            return operation >= Law.BELOW && operation <= Law.EVEN;
        }

        private void push(int operation) {
            if (size < DEEPEST) {
                stack[size] = operation;
                leaps[size] = length;
                size++;
            }
        }

        private void add(int operation, int operand) {
            if (length < LONGEST_LAW) {
                code[length] = operation | (operand << Law.BITS);
                length++;
            }
        }
    }

    /** What is KEPT and UNDONE: WEAR, THE DAY, X and THE WALK. */
    private static final class Course {
        private final int[] wear = new int[PLACES];
        private final int[] wasAt = new int[MINUTES];
        private int day = 0;
        private int x = 1;
        // Of THE WALK; an HOUR below 0: he did not come down.
        private int hour = NOTHING;
        private int steps = 0;
        private int called = 0;
        private int farthest = 0;

        void take(Course other) {
            System.arraycopy(other.wear, 0, wear, 0, PLACES);
            System.arraycopy(other.wasAt, 0, wasAt, 0, MINUTES);
            day = other.day;
            x = other.x;
            hour = other.hour;
            steps = other.steps;
            called = other.called;
            farthest = other.farthest;
        }

        void forgetWalk() {
            hour = NOTHING;
            steps = 0;
            called = 0;
            farthest = 0;
        }

        int draw() {
            x = (25173 * x + 13849) % 65536;
            return x;
        }

        int wearOfAll() {
            int answer = 0;
            for (int place = 0; place < PLACES; place++) {
                answer += wear[place];
            }
            return answer;
        }
    }

    /** Lets DAYS go by. */
    private static final class Walker {
        private final Town town;
        private final Law rule;
        private final int[] weights = new int[HOURS];

        Walker(Town town, Law rule) {
            this.town = town;
            this.rule = rule;
        }

        /** One DAY; false if none goes by any more. */
        boolean goDay(Course course) {
            if (course.day >= LAST_DAY) {
                return false;
            }
            course.forgetWalk();
            course.hour = drawHour(course);
            if (course.hour >= 0) {
                goHour(course);
            }
            course.day++;
            return true;
        }

        private int drawHour(Course course) {
            int all = 0;
            for (int hour = 0; hour < HOURS; hour++) {
                weights[hour] = rule.weightOf(hour, course.day);
                all += weights[hour];
            }
            if (all <= 0) {
                return NOTHING;
            }
            int left = course.draw() % all;
            for (int hour = 0; hour < HOURS; hour++) {
                left -= weights[hour];
                if (left < 0) {
                    return hour;
                }
            }
            return NOTHING;
        }

        private void goHour(Course course) {
            int place = town.squareAt;
            rule.setHour(course.hour, course.day);
            for (int minute = 0; minute < MINUTES; minute++) {
                rule.setMinute(minute, Integer.bitCount(course.called));
                int next = nextPlace(course, place, minute);
                if (next != place) {
                    comeTo(course, next);
                }
                place = next;
                course.wasAt[minute] = place;
                course.farthest = Math.max(course.farthest, town.home[place]);
            }
        }

        private int nextPlace(Course course, int place, int minute) {
            if (place != town.squareAt && town.home[place] >= MINUTES - 1 - minute) {
                return town.stepHome(place);
            }
            lookAt(course, place);
            if (rule.standsStill()) {
                return place;
            }
            int most = 0;
            int answer = place;
            for (int way = 0; way < WAYS; way++) {
                int next = beside(place, way);
                if (town.isOpen(next)) {
                    lookAt(course, next);
                    int liking = rule.valueOf('e', Law.MOST_LIKING);
                    answer = liking > most ? next : answer;
                    most = Math.max(most, liking);
                }
            }
            return answer;
        }

        private void lookAt(Course course, int place) {
            rule.setPlace(place, course.wear[place], town.toNine[place], town.home[place]);
        }

        private void comeTo(Course course, int place) {
            course.steps++;
            course.wear[place] = Math.min(MOST_WEAR, course.wear[place] + 1);
            for (int k = 1; k <= DOORS; k++) {
                if (town.doorAt[k] == place) {
                    course.called |= 1 << k;
                }
            }
        }
    }

    /** Which HOURS are WATCHED, and which weigh most of those that are not. */
    private static final class Vigil {
        private static final int MOST_LINES = 24;
        private final Law rule;
        private final int[] weights = new int[HOURS];
        private int watched = 0;
        private int draft = 0;
        private int at = 0;
        private int unwatchedWeight = 0;
        private int picked = 0;
        private int pickedWeight = 0;

        Vigil(Law rule) {
            this.rule = rule;
        }

        boolean isWatched(int hour) {
            return (watched >> hour & 1) != 0;
        }

        void weigh(int day) {
            picked = 0;
            pickedWeight = 0;
            unwatchedWeight = 0;
            for (int hour = 0; hour < HOURS; hour++) {
                weights[hour] = rule.weightOf(hour, day);
                unwatchedWeight += isWatched(hour) ? 0 : weights[hour];
            }
        }

        /** One more HOUR, neither WATCHED nor picked; the first of like ones, for the least bits. */
        void pickHeaviest() {
            int most = -1;
            int answer = 0;
            for (int hour = 0; hour < HOURS; hour++) {
                boolean isFree = !isWatched(hour) && (picked >> hour & 1) == 0;
                if (isFree && weights[hour] > most) {
                    most = weights[hour];
                    answer = hour;
                }
            }
            if (most >= 0) {
                picked |= 1 << answer;
                pickedWeight += most;
            }
        }

        /** Reads NOTES: how many LINES, or a FAULT, by which all stays as it was. */
        int read(Tape tape, int n) {
            draft = watched;
            at = 0;
            for (int lines = 1; lines <= MOST_LINES; lines++) {
                int fault = readLine(tape, n);
                if (fault != 0) {
                    return fault;
                }
                if (at >= n) {
                    watched = draft;
                    return lines;
                }
                if (tape.at(at, n) != ';') {
                    return faultAt(1, at);
                }
                at++;
            }
            return faultAt(isDigit(tape.at(at, n)) ? 4 : 1, at);
        }

        /** The FAULT, or 0. */
        private int readLine(Tape tape, int n) {
            int first = readHour(tape, n);
            if (first < 0) {
                return first;
            }
            int last = first;
            if (tape.at(at, n) == ':') {
                at++;
                last = readHour(tape, n);
                if (last < 0) {
                    return last;
                }
            }
            int sign = tape.at(at, n);
            if (sign != '-' && sign != '?') {
                return faultAt(1, at);
            }
            at++;
            mark(first, last, sign == '-');
            return 0;
        }

        /** An HOUR, or a FAULT. */
        private int readHour(Tape tape, int n) {
            int first = at;
            int hour = 0;
            while (at < n && isDigit(tape.at(at, n))) {
                if (at == first + 2) {
                    return faultAt(2, at);
                }
                hour = 10 * hour + tape.at(at, n) - '0';
                at++;
            }
            if (at == first) {
                return faultAt(1, at);
            }
            return hour >= HOURS ? faultAt(3, first) : hour;
        }

        private void mark(int first, int last, boolean isWatched) {
            int hours = Math.floorMod(last - first, HOURS) + 1;
            for (int i = 0; i < hours; i++) {
                int bit = 1 << (first + i) % HOURS;
                draft = isWatched ? draft | bit : draft & ~bit;
            }
        }
    }

    /** A CHASE: by one more move of the king each time, where a thief is surely caught. */
    private static final class Hunt {
        private static final int MOST_MOVES = 60;
        private final Town town;
        // By the king's PLACE: the thief's PLACES, the king's move being next; and the thief's.
        private final PlaceSet[] caught = new PlaceSet[PLACES];
        private final PlaceSet[] trapped = new PlaceSet[PLACES];

        Hunt(Town town) {
            this.town = town;
            for (int place = 0; place < PLACES; place++) {
                caught[place] = new PlaceSet();
                trapped[place] = new PlaceSet();
            }
        }

        int movesToCatch(int king, int thief) {
            for (int place = 0; place < PLACES; place++) {
                caught[place].clear();
                caught[place].add(place);
            }
            boolean goesOn = true;
            for (int moves = 0; moves <= MOST_MOVES && goesOn; moves++) {
                if (caught[king].has(thief)) {
                    return moves;
                }
                trapThief();
                goesOn = moveKing();
            }
            return NOTHING;
        }

        /** A thief is trapped where he can neither stay nor step to a PLACE that is not lost. */
        private void trapThief() {
            for (int place = 0; place < PLACES; place++) {
                PlaceSet set = trapped[place];
                set.take(caught[place]);
                set.turnWithin(town.open);
                set.grow();
                set.turnWithin(town.open);
                set.add(place);
            }
        }

        /** Whether by one move more any thief more is caught. */
        private boolean moveKing() {
            boolean isMore = false;
            for (int place = 0; place < PLACES; place++) {
                if (town.isOpen(place)) {
                    int before = caught[place].size();
                    caught[place].join(trapped[place]);
                    for (int way = 0; way < WAYS; way++) {
                        int next = beside(place, way);
                        if (next >= 0 && town.isOpen(next)) {
                            caught[place].join(trapped[next]);
                        }
                    }
                    isMore = isMore || caught[place].size() > before;
                }
            }
            return isMore;
        }
    }

    /** CALLS: for each set of DOORS the best row through them and back to THE SQUARE. */
    private static final class Rounds {
        private static final int SETS = 512;
        // THE SQUARE is 0 among the DOORS.
        private static final int STOPS = 10;
        // STEPS times this and the row of DOORS as a number of up to nine digits: less is better.
        private static final long STEP = 1000000000L;
        // Worse than any row, even one without a way between any two of its stops.
        private static final long WORST = 1000000 * STEP;
        private static final int[] TENS = {1, 10, 100, 1000, 10000, 100000, 1000000, 10000000, 100000000};

        private final Town town;
        // The best row through a set from each stop on.
        private final long[] best = new long[SETS * STOPS];
        private final int[] between = new int[STOPS * STOPS];
        private final int[] steps = new int[PLACES];
        private int madeAt = NONE;
        private int many = 0;
        private long chosen = 0;

        Rounds(Town town) {
            this.town = town;
        }

        void choose(int minutes) {
            if (madeAt != town.changes) {
                measure();
                for (int set = 0; set < SETS; set++) {
                    findRows(set);
                }
                madeAt = town.changes;
            }
            many = 0;
            chosen = 0;
            for (int set = 1; set < SETS; set++) {
                long row = best[set * STOPS];
                int doors = Integer.bitCount(set);
                boolean isBetter = doors > many || (doors == many && row < chosen);
                if (isTold(set) && isBetter && row < (minutes + 1) * STEP) {
                    many = doors;
                    chosen = row;
                }
            }
        }

        int stepsOfBest() {
            return (int) (chosen / STEP);
        }

        int doorOfBest(int index) {
            if (index < 0 || index >= many || many > DOORS) {
                return NO_SUCH_CALL;
            }
            int row = (int) (chosen % STEP);
            return row / TENS[many - 1 - index] % 10;
        }

        private boolean isTold(int set) {
            return (set << 1 & ~town.told) == 0;
        }

        private int placeOf(int stop) {
            return stop == 0 ? town.squareAt : town.doorAt[stop];
        }

        private void measure() {
            for (int from = 0; from < STOPS; from++) {
                town.spread(placeOf(from), OPEN, steps);
                for (int to = 0; to < STOPS; to++) {
                    int place = placeOf(to);
                    between[from * STOPS + to] = place < 0 ? NO_WAY : steps[place];
                }
            }
        }

        private void findRows(int set) {
            if (!isTold(set)) {
                return;
            }
            for (int from = 0; from < STOPS; from++) {
                best[set * STOPS + from] = bestRow(set, from);
            }
        }

        private long bestRow(int set, int from) {
            int doors = Integer.bitCount(set);
            if (doors == 0 || doors > DOORS) {
                return between[from * STOPS] * STEP;
            }
            long answer = WORST;
            for (int to = 1; to < STOPS; to++) {
                int bit = 1 << (to - 1);
                if ((set & bit) != 0) {
                    long row = between[from * STOPS + to] * STEP + (long) to * TENS[doors - 1];
                    answer = Math.min(answer, row + best[(set & ~bit) * STOPS + to]);
                }
            }
            return answer;
        }
    }

    /** Where lovers meet, where benches stand, what walls bar a way, and how the streets lie. */
    private static final class Survey {
        private static final int NOWHERE = 1000;
        private static final int NEAR = 2;
        private final Town town;
        private final int[] steps = new int[PLACES];
        private final int[] walls = new int[PLACES];
        private final int[] together = new int[PLACES];
        private final int[] farthest = new int[PLACES];
        private final PlaceSet[] near = new PlaceSet[PLACES];
        private final PlaceSet some = new PlaceSet();
        private final PlaceSet left = new PlaceSet();
        private int firstBench = NOTHING;
        private int secondBench = NOTHING;
        private int nearBenches = 0;
        private int cuts = 0;
        private int lowestCut = NOTHING;

        Survey(Town town) {
            this.town = town;
            for (int place = 0; place < PLACES; place++) {
                near[place] = new PlaceSet();
            }
        }

        int stepsByOldMap(int place) {
            town.spread(town.squareAt, NEW_WALL, steps);
            return steps[place];
        }

        /** The fewest NEW walls on a way to a PLACE, or on a way as short as by the OLD map. */
        int newWallsTo(int place, boolean shortest) {
            if (stepsByOldMap(place) == NO_WAY) {
                return NOTHING;
            }
            Arrays.fill(walls, NO_WAY);
            walls[town.squareAt] = 0;
            boolean goesOn = true;
            for (int round = 0; round < PLACES && goesOn; round++) {
                goesOn = findFewerWalls(shortest);
            }
            return walls[place];
        }

        private boolean findFewerWalls(boolean shortest) {
            boolean isFewer = false;
            for (int place = 0; place < PLACES; place++) {
                for (int way = 0; way < WAYS && walls[place] < NO_WAY; way++) {
                    int next = beside(place, way);
                    if (next < 0 || town.kindOf(next) == OLD_WALL
                        || (shortest && steps[next] != steps[place] + 1)) {
                        continue;
                    }
                    int through = walls[place] + (town.kindOf(next) == NEW_WALL ? 1 : 0);
                    if (through < walls[next]) {
                        walls[next] = through;
                        isFewer = true;
                    }
                }
            }
            return isFewer;
        }

        void forgetLovers() {
            Arrays.fill(together, 0);
            Arrays.fill(farthest, 0);
        }

        void addLover(int from) {
            town.spread(from, OPEN, steps);
            for (int place = 0; place < PLACES; place++) {
                together[place] += steps[place] == NO_WAY ? NOWHERE : steps[place];
                farthest[place] = Math.max(farthest[place], steps[place]);
            }
        }

        int meetingPlace() {
            int answer = NOTHING;
            int fewest = NOWHERE;
            int least = NO_WAY;
            for (int place = 0; place < PLACES; place++) {
                boolean isLike = together[place] == fewest && farthest[place] < least;
                if (together[place] < fewest || isLike) {
                    answer = place;
                    fewest = together[place];
                    least = farthest[place];
                }
            }
            return answer;
        }

        /** The PLACES with WEAR that are near, for each open PLACE. */
        void lookAround(int[] wear) {
            some.clear();
            for (int place = 0; place < PLACES && place < wear.length; place++) {
                if (wear[place] > 0) {
                    some.add(place);
                }
            }
            for (int place = 0; place < PLACES; place++) {
                near[place].clear();
                near[place].add(place);
                for (int i = 0; i < NEAR; i++) {
                    near[place].meet(town.open);
                    near[place].grow();
                }
                near[place].meet(town.open);
                near[place].meet(some);
            }
            firstBench = NOTHING;
            secondBench = NOTHING;
            nearBenches = 0;
        }

        void setOneBench() {
            for (int place = 0; place < PLACES; place++) {
                if (town.isOpen(place) && near[place].size() > nearBenches) {
                    nearBenches = near[place].size();
                    firstBench = place;
                }
            }
        }

        void setTwoBenches() {
            for (int first = 0; first < PLACES; first++) {
                for (int second = first + 1; second < PLACES && town.isOpen(first); second++) {
                    if (town.isOpen(second) && near[first].sizeWith(near[second]) > nearBenches) {
                        nearBenches = near[first].sizeWith(near[second]);
                        firstBench = first;
                        secondBench = second;
                    }
                }
            }
        }

        int islands() {
            int answer = 0;
            left.take(town.open);
            for (int place = 0; place < PLACES; place++) {
                if (left.has(place)) {
                    answer++;
                    some.clear();
                    some.add(place);
                    some.flood(town.open);
                    some.turnWithin(left);
                    left.take(some);
                }
            }
            return answer;
        }

        int deadEnds() {
            return openPlacesWith(0) + openPlacesWith(1);
        }

        int crossings() {
            return openPlacesWith(WAYS);
        }

        int rings() {
            // Each pair of neighbours is met from both of its sides.
            int sides = openPlacesWith(1) + 2 * openPlacesWith(2) + 3 * openPlacesWith(3)
                + 4 * openPlacesWith(4);
            return sides / 2 - town.open.size() + islands();
        }

        private int openPlacesWith(int neighbours) {
            int answer = 0;
            for (int place = 0; place < PLACES; place++) {
                if (town.isOpen(place) && town.openBeside(place) == neighbours) {
                    answer++;
                }
            }
            return answer;
        }

        void findCuts() {
            cuts = 0;
            lowestCut = NOTHING;
            int all = comeToWithout(NONE);
            for (int place = 0; place < PLACES; place++) {
                boolean canBeCut = place != town.squareAt && town.home[place] != NO_WAY;
                if (canBeCut && comeToWithout(place) < all - 1) {
                    lowestCut = cuts == 0 ? place : lowestCut;
                    cuts++;
                }
            }
        }

        private int comeToWithout(int place) {
            left.take(town.open);
            if (place >= 0) {
                left.drop(place);
            }
            some.clear();
            some.add(town.squareAt);
            some.flood(left);
            return some.size();
        }
    }
}
