/** Boundary cases of the ways: promises 16 to 20. */
public final class WayEdgesTest {
    /** The longest street without a side way that the town has room for: 62 PLACES, from 1, 3 to 11, 6. */
    private static final String LONGEST = "3.#4.#3./.#.#.2#.#.#./.#3.#2.#.#./2.3#2.#2.#./2#4.#2.#2./3.4#.#2.#/"
        + ".2#3.#.#.#./4.#3.#3.";
    private static final int ONE_END = 37;
    private static final int OTHER_END = 83;

    private WayEdgesTest() {
    }

    public static void main(String[] args) {
        theLongestStreet();
        farNumbers();
        farAndBack();
        callsNumbers();
        callsInSoManyMinutes();
        callsOfNoDoor();
        callsOfOneDoor();
        callsOfAllDoors();
        callsPlaces();
        callsFewestSteps();
        callsLeastRow();
        callsAfterAChange();
        oldAndBarredNumbers();
        oldMap();
        barredFewest();
        barredAsShort();
        barredOnALongWay();
        chaseNumbers();
        chaseUpToSixty();
        chaseNever();
        chaseOpenAlone();
        Due.end();
    }

    private static BronzeKing longest() {
        return Edges.kingAt(ONE_END, LONGEST, "");
    }

    private static void theLongestStreet() {
        BronzeKing king = longest();
        Due.is("62 PLACES", king.streets(4), 62);
        Due.is("its end", king.placeIs(11, 6, 2), 61);
        Due.is("one street", king.streets(0) * 10 + king.streets(1), 12);
        Due.is("no ring", king.streets(2), 0);
        Due.is("60 PLACES between its ends", king.streets(5), 60);
    }

    /** "FAR: .. in so many MINUTES (0 to 60)"; "NONE: no such number". */
    private static void farNumbers() {
        Edges.range("far(minutes)", 0, 60, -1, minutes -> longest().far(minutes));
    }

    /** ".. and be back in 60 in all". */
    private static void farAndBack() {
        BronzeKing street = longest();
        for (int minutes = 0; minutes <= 60; minutes++) {
            Due.is("far(" + minutes + ")", street.far(minutes), Math.min(minutes, 30) + 1);
        }
        BronzeKing alone = Edges.kingAt(40, Edges.only('+'), "");
        Due.is("far(0), walled in", alone.far(0), 1);
        Due.is("far(60), walled in", alone.far(60), 1);
        BronzeKing open = new BronzeKing();
        Due.is("far(17) from a corner", open.far(17), 95);
        Due.is("far(18) from a corner", open.far(18), 96);
    }

    private static BronzeKing withDoors(int... placesOfDoors) {
        BronzeKing king = longest();
        for (int i = 0; i < placesOfDoors.length; i++) {
            king.door(i + 1, placesOfDoors[i] % 12, placesOfDoors[i] / 12);
        }
        return king;
    }

    private static void row(BronzeKing king, int minutes, int steps, int... doors) {
        Due.is("calls(" + minutes + ", 100)", king.calls(minutes, 100), doors.length);
        Due.is("calls(" + minutes + ", 101)", king.calls(minutes, 101), steps);
        for (int i = 0; i < 9; i++) {
            Due.is("calls(" + minutes + ", " + i + ")", king.calls(minutes, i), i < doors.length ? doors[i] : -4);
        }
    }

    /** "in so many MINUTES, what 100 .., 101 .., else the DOOR at place what (0 to 8) ..; NONE: no such ones". */
    private static void callsNumbers() {
        for (int what : new int[] {0, 1, 8, 100, 101}) {
            Edges.range("calls(minutes, " + what + ")", 1, 60, -1, minutes -> withDoors(36).calls(minutes, what));
        }
        BronzeKing king = withDoors(36);
        for (int what = -5; what <= 110; what++) {
            boolean isTaken = what >= 0 && what <= 8 || what == 100 || what == 101;
            Due.is("calls(9, " + what + ") is taken", king.calls(9, what) != -1, isTaken);
            Due.is("calls(0, " + what + ")", king.calls(0, what), -1);
            Due.is("calls(61, " + what + ")", king.calls(61, what), -1);
        }
        for (int what : new int[] {Integer.MIN_VALUE, -156, 256, 356, 65636, Integer.MAX_VALUE}) {
            Due.is("calls(9, " + what + ")", king.calls(9, what), -1);
        }
    }

    /** "in so many MINUTES (1 to 60) from THE SQUARE and back to it". */
    private static void callsInSoManyMinutes() {
        // 30 STEPS off, 31 STEPS off, and one STEP off.
        BronzeKing king = withDoors(85, 86, 36);
        Due.is("30 STEPS", king.placeIs(1, 7, 2), 30);
        row(king, 1, 0);
        row(king, 2, 2, 3);
        row(king, 59, 2, 3);
        row(king, 60, 60, 1, 3);
        BronzeKing beyond = withDoors(86);
        row(beyond, 60, 0);
        BronzeKing edge = withDoors(85);
        row(edge, 59, 0);
        row(edge, 60, 60, 1);
    }

    private static void callsOfNoDoor() {
        row(new BronzeKing(), 1, 0);
        row(new BronzeKing(), 60, 0);
        BronzeKing walls = Edges.kingAt(0, Edges.only('#', 0, 1, 30), "");
        walls.door(3, 6, 2);
        walls.door(4, 5, 5);
        Due.is("on an island", walls.placeIs(6, 2, 0), 2);
        row(walls, 60, 0);
    }

    private static void callsOfOneDoor() {
        for (int k = 1; k <= 9; k++) {
            BronzeKing king = new BronzeKing();
            king.door(k, 2, 1);
            row(king, 5, 0);
            row(king, 6, 6, k);
            row(king, 60, 6, k);
        }
    }

    /** As many as there may be: nine, one after the other, at one PLACE and at THE SQUARE. */
    private static void callsOfAllDoors() {
        BronzeKing line = new BronzeKing();
        for (int k = 1; k <= 9; k++) {
            line.door(k, k, 0);
        }
        row(line, 60, 18, 1, 2, 3, 4, 5, 6, 7, 8, 9);
        row(line, 18, 18, 1, 2, 3, 4, 5, 6, 7, 8, 9);
        row(line, 17, 16, 1, 2, 3, 4, 5, 6, 7, 8);
        row(line, 2, 2, 1);
        BronzeKing back = new BronzeKing();
        for (int k = 1; k <= 9; k++) {
            back.door(k, 10 - k, 0);
        }
        row(back, 18, 18, 1, 2, 3, 4, 5, 6, 7, 8, 9);
        row(back, 17, 16, 2, 3, 4, 5, 6, 7, 8, 9);
        row(back, 2, 2, 9);
        BronzeKing one = new BronzeKing();
        for (int k = 1; k <= 9; k++) {
            one.door(k, 11, 7);
        }
        row(one, 36, 36, 1, 2, 3, 4, 5, 6, 7, 8, 9);
        row(one, 35, 0);
        one.square(11, 7);
        row(one, 1, 0, 1, 2, 3, 4, 5, 6, 7, 8, 9);
    }

    /** "-4: no such place". */
    private static void callsPlaces() {
        for (int many = 0; many <= 9; many++) {
            BronzeKing king = new BronzeKing();
            for (int k = 1; k <= many; k++) {
                king.door(k, 1, 0);
            }
            for (int place = 0; place <= 8; place++) {
                Due.is("place " + place + " of " + many, king.calls(2, place), place < many ? place + 1 : -4);
            }
            Due.is("place 9 of " + many, king.calls(2, 9), -1);
        }
    }

    /** "of like ones the fewest STEPS". */
    private static void callsFewestSteps() {
        BronzeKing king = Edges.kingAt(40, "", "");
        king.door(1, 4, 6);
        king.door(9, 5, 3);
        row(king, 2, 2, 9);
        row(king, 6, 2, 9);
        row(king, 7, 2, 9);
        row(king, 8, 8, 1, 9);
        king.door(2, 4, 2);
        row(king, 2, 2, 2);
        row(king, 4, 4, 2, 9);
        row(king, 9, 4, 2, 9);
        row(king, 10, 10, 1, 2, 9);
    }

    /** "then the least row of DOORS". */
    private static void callsLeastRow() {
        BronzeKing king = Edges.kingAt(40, "", "");
        int[] around = {28, 41, 52, 39};
        int[] doors = {7, 3, 8, 5};
        for (int i = 0; i < 4; i++) {
            king.door(doors[i], around[i] % 12, around[i] / 12);
        }
        row(king, 2, 2, 3);
        row(king, 3, 2, 3);
        row(king, 4, 4, 3, 5);
        row(king, 6, 6, 3, 5, 7);
        row(king, 8, 8, 3, 5, 7, 8);
        king.door(1, 4, 3);
        row(king, 2, 2, 1, 3);
        BronzeKing passed = new BronzeKing();
        passed.door(2, 1, 0);
        passed.door(1, 2, 0);
        row(passed, 4, 4, 1, 2);
        passed.door(1, 1, 0);
        passed.door(2, 2, 0);
        row(passed, 4, 4, 1, 2);
    }

    private static void callsAfterAChange() {
        BronzeKing king = new BronzeKing();
        king.door(1, 3, 0);
        row(king, 60, 6, 1);
        Due.map(king, "2.#");
        row(king, 60, 10, 1);
        king.square(4, 0);
        row(king, 60, 2, 1);
        king.door(1, 3, 1);
        row(king, 60, 4, 1);
        king.door(2, 4, 1);
        row(king, 60, 4, 1, 2);
    }

    private static BronzeKing twoPlaces() {
        return Edges.kingAt(0, Edges.only('#', 0, 1), "");
    }

    /** "barred .. what 0 .., 1 ..; NONE: no such ones". */
    private static void oldAndBarredNumbers() {
        for (int place = 0; place < 96; place++) {
            int x = place % 12;
            int y = place / 12;
            BronzeKing king = twoPlaces();
            Due.is("old", king.old(x, y), place < 2 ? place : -2);
            for (int what = -3; what <= 4; what++) {
                boolean isTaken = what == 0 || what == 1;
                Due.is("barred(.., " + what + ")", king.barred(x, y, what), !isTaken ? -1 : place < 2 ? 0 : -2);
            }
        }
        Edges.range("barred(1, 0, what)", 0, 1, -1, what -> twoPlaces().barred(1, 0, what));
        Edges.range("barred(5, 5, what), no way", 0, 1, -1, what -> twoPlaces().barred(5, 5, what));
        Edges.range("barred(12, 0, what)", 1, 0, -1, what -> twoPlaces().barred(12, 0, what));
    }

    /** "OLD: the STEPS from THE SQUARE to a PLACE as if no NEW walls were"; "-2: no way". */
    private static void oldMap() {
        BronzeKing all = Edges.kingAt(0, Edges.only('+'), "");
        for (int place = 0; place < 96; place++) {
            int x = place % 12;
            int y = place / 12;
            Due.is("through NEW walls", all.old(x, y), x + y);
            Due.is("as many walls", all.barred(x, y, 0), x + y);
            Due.is("as many walls", all.barred(x, y, 1), x + y);
        }
        BronzeKing mixed = Edges.kingAt(0, ".+#./#.#./+.+.", "");
        Due.is("an OLD wall", mixed.old(2, 0), -2);
        Due.is("a NEW wall", mixed.old(1, 0), 1);
        Due.is("around", mixed.old(3, 0), 7);
        Due.is("THE SQUARE", mixed.old(0, 0), 0);
        mixed.square(2, 0);
        Due.is("THE SQUARE on an OLD wall", mixed.old(2, 0), 0);
        Due.is("from there", mixed.old(3, 0), 1);
    }

    /** "the fewest NEW walls that must be taken down so that there is a way at all". */
    private static void barredFewest() {
        BronzeKing king = Edges.kingAt(0, "..+..+...#../9#2.#", "");
        Due.is("no wall on the way", king.barred(1, 0, 0), 0);
        Due.is("the wall itself", king.barred(2, 0, 0), 1);
        Due.is("behind one", king.barred(3, 0, 0), 1);
        Due.is("behind two", king.barred(8, 0, 0), 2);
        Due.is("an OLD wall", king.barred(9, 0, 0), -2);
        Due.is("behind an OLD wall", king.barred(10, 0, 0), -2);
        BronzeKing none = Edges.kingAt(0, "", "");
        Due.is("no walls at all", none.barred(11, 7, 0), 0);
    }

    /** "that there is a way as short as by the OLD map". */
    private static void barredAsShort() {
        BronzeKing king = Edges.kingAt(0, ".+./3.", "");
        Due.is("around", king.barred(2, 0, 0), 0);
        Due.is("straight on", king.barred(2, 0, 1), 1);
        Due.is("a way as short that has none", king.barred(2, 1, 1), 0);
        BronzeKing two = Edges.kingAt(0, ".2+./.+2./4.", "");
        Due.is("the shortest has two", two.barred(3, 0, 1), 2);
        Due.is("a longer one has none", two.barred(3, 0, 0), 0);
        Due.is("of the shortest the one with the fewest", two.barred(3, 1, 1), 1);
        BronzeKing through = Edges.kingAt(0, Edges.only('+', 0, 12, 24, 25, 26, 14, 2), "");
        Due.is("a way around", through.barred(2, 0, 0), 0);
        Due.is("one wall", through.barred(2, 0, 1), 1);
    }

    /** Where the fewest walls stand on a way up and back, as many as there can be. */
    private static void barredOnALongWay() {
        String allNew = LONGEST.replace('.', '+');
        for (int end = 0; end < 2; end++) {
            BronzeKing king = Edges.kingAt(end == 0 ? ONE_END : OTHER_END, allNew, "");
            int x = end == 0 ? 11 : 1;
            int y = end == 0 ? 6 : 3;
            Due.is("STEPS by the OLD map", king.old(x, y), 61);
            Due.is("NEW walls", king.barred(x, y, 0), 61);
            Due.is("NEW walls", king.barred(x, y, 1), 61);
            BronzeKing open = Edges.kingAt(end == 0 ? ONE_END : OTHER_END, LONGEST.replace('#', '+'), "");
            Due.is("a long way, but none", open.barred(x, y, 0), 0);
            Due.is("straight on", open.old(x, y), 13);
            Due.is("walls straight on", open.barred(x, y, 1) > 0, true);
        }
    }

    /** "A CHASE from a PLACE (12 Y and X) of the king, one of the thief ..; NONE: no such ones". */
    private static void chaseNumbers() {
        Edges.range("chase(king, 5)", 0, 95, -1, king -> new BronzeKing().chase(king, 5));
        Edges.range("chase(5, thief)", 0, 95, -1, thief -> new BronzeKing().chase(5, thief));
        Edges.range("chase(96, thief)", 1, 0, -1, thief -> new BronzeKing().chase(96, thief));
        BronzeKing open = new BronzeKing();
        for (int place = 0; place < 96; place++) {
            Due.is("he is there", open.chase(place, place), 0);
        }
    }

    /** "in how many of his own moves (up to 60)"; "-2: not surely in 60". */
    private static void chaseUpToSixty() {
        BronzeKing king = longest();
        Due.is("61 moves", king.chase(ONE_END, OTHER_END), -2);
        Due.is("61 moves", king.chase(OTHER_END, ONE_END), -2);
        Due.is("60 moves", king.chase(36, OTHER_END), 60);
        Due.is("60 moves", king.chase(95, ONE_END), 60);
        Due.is("59 moves", king.chase(24, OTHER_END), 59);
        Due.is("he flees to the end: 61", king.chase(ONE_END, 24), -2);
        Due.is("he flees to the end: 60", king.chase(36, 12), 60);
        Due.is("beside him it is one move", king.chase(ONE_END, 36), 1);
        Due.is("the short end", king.chase(24, ONE_END), 2);
        Due.is("the short end", king.chase(24, 36), 1);
    }

    /** "never": around a ring, or where there is no way. */
    private static void chaseNever() {
        BronzeKing ring = Edges.kingAt(0, Edges.only('#', 0, 1, 12, 13, 2, 3), "");
        Due.is("across the ring", ring.chase(0, 13), -2);
        Due.is("beside", ring.chase(0, 1), 1);
        Due.is("from the street into the ring", ring.chase(3, 12), -2);
        Due.is("to the end of the street", ring.chase(1, 3), 2);
        Due.is("out of the ring, if he can't come back", ring.chase(1, 2), 1);
        Due.is("he can't come into the ring", ring.chase(13, 3), 3);
        Due.is("he can't come into the ring", ring.chase(12, 2), 4);
        Due.is("he is in the ring", ring.chase(12, 1), -2);
        BronzeKing islands = Edges.kingAt(0, Edges.only('#', 0, 2, 11, 12), "");
        Due.is("no way", islands.chase(0, 2), -2);
        Due.is("not over the edge", islands.chase(11, 12), -2);
        Due.is("one STEP", islands.chase(0, 12), 1);
    }

    /** "both open": THE SQUARE is, walls of both kinds are not. */
    private static void chaseOpenAlone() {
        BronzeKing king = Edges.kingAt(1, "..#+", "");
        int[][] due = {{2, 0, -1}, {0, 2, -1}, {3, 0, -1}, {0, 3, -1}, {2, 2, -1}, {3, 3, -1}, {1, 0, 1}, {0, 1, 1}};
        for (int[] d : due) {
            Due.is("chase(" + d[0] + ", " + d[1] + ")", king.chase(d[0], d[1]), d[2]);
        }
        king.square(2, 0);
        Due.is("THE SQUARE on a wall", king.chase(2, 1), 1);
        Due.is("the NEW wall", king.chase(3, 1), -1);
    }
}
