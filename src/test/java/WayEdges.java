/** The edges of what is asked of ways: odds, from where, where they meet, turns, how many there are, stockings, ropes. */
final class WayEdges {
    private WayEdges() {
    }

    static void all() {
        odds();
        oddsArguments();
        fromWhere();
        meet();
        cowls();
        turn();
        turnPlaces();
        ways();
        stockings();
        stockingsArguments();
        ropes();
        ropesBound();
        ropesArguments();
    }

    private static void is(GrilleHotel h, int r, int to, int tenths, int above, int below) {
        String call = "odds(" + r + ", " + to + ", " + tenths + ", ";
        Due.is(call + "0)", h.odds(r, to, tenths, 0), above);
        Due.is(call + "1)", h.odds(r, to, tenths, 1), below);
    }

    private static void odds() {
        Doc.says(13, "at each ROOM on THE WAY of a ROOM with an open GRILLE and a GUEST it comes out in so many tenths (0 to 10, the same for all)");
        GrilleHotel h = Due.hotel("", 4, 0, 8, 0, 12, 0, 16, 0, 20, 0);
        is(h, 0, 4, 1, 1, 10);
        is(h, 0, 8, 1, 9, 100);
        is(h, 0, 20, 1, 6561, 100000);
        is(h, 0, 24, 1, 59049, 100000);
        is(h, 0, 4, 9, 9, 10);
        is(h, 0, 20, 9, 9, 100000);
        is(h, 0, 24, 9, 1, 100000);
        h.grille(8, false);
        is(h, 0, 8, 1, 0, 1);
        is(h, 0, 12, 1, 9, 100);
        Due.register(h, "12!");
        is(h, 0, 12, 1, 0, 1);
        is(h, 0, 16, 1, 9, 100);
        Doc.says(13, "the odds that it comes out in a certain ROOM (THE COWL: 24)");
        is(h, 0, 24, 1, 729, 1000);
        is(h, 20, 24, 5, 1, 1);
        is(h, 23, 24, 10, 1, 1);
        is(h, 16, 20, 3, 3, 10);
        is(h, 16, 24, 3, 7, 10);
        Due.is("one that is not on the way", h.odds(0, 5, 3, 0), 0);
        Due.is("one that is not on the way", h.odds(0, 5, 3, 1), 1);
        Due.is("one below", h.odds(8, 4, 3, 0), 0);
        Due.is("one below", h.odds(8, 4, 3, 1), 1);
        Due.is("it itself", h.odds(4, 4, 3, 0), 0);
        Due.is("it itself", h.odds(4, 4, 3, 1), 1);
        Doc.says(13, "tenths (0 to 10), what 0 above, 1 below the line, without a common divisor");
        h = Due.hotel("", 4, 0, 8, 0);
        is(h, 0, 4, 0, 0, 1);
        is(h, 0, 24, 0, 1, 1);
        is(h, 0, 4, 10, 1, 1);
        is(h, 0, 8, 10, 0, 1);
        is(h, 0, 24, 10, 0, 1);
        is(h, 0, 4, 2, 1, 5);
        is(h, 0, 8, 2, 4, 25);
        is(h, 0, 24, 2, 16, 25);
        is(h, 0, 8, 5, 1, 4);
        is(h, 0, 8, 8, 4, 25);
    }

    private static void oddsArguments() {
        Doc.says(13, "ODDS from a ROOM to another one (or 24), tenths (0 to 10), what 0 above, 1 below the line, without a common divisor; NONE: no such ones.");
        GrilleHotel h = Due.hotel("", 4, 0);
        Doc.bounds("odds(r, 24, 3, 0)", r -> h.odds(r, 24, 3, 0), 0, 23, -1);
        Doc.bounds("odds(0, to, 3, 0)", to -> h.odds(0, to, 3, 0), 0, 24, -1);
        Doc.bounds("odds(0, 4, tenths, 0)", tenths -> h.odds(0, 4, tenths, 0), 0, 10, -1);
        Doc.bounds("odds(0, 4, 3, what)", what -> h.odds(0, 4, 3, what), 0, 1, -1);
    }

    private static void fromWhere() {
        Doc.says(14, "FROM WHERE: ROOMS (bits) whose WAY passes a ROOM.");
        GrilleHotel h = new GrilleHotel();
        for (int c = 0; c < 4; c++) {
            Due.is("the lowest floor, " + c, h.fromWhere(c), 0);
            Due.is("the top, " + c, h.fromWhere(20 + c), Due.bits(c, 4 + c, 8 + c, 12 + c, 16 + c));
        }
        for (int r = 0; r < 20; r++) {
            h.louvre(r, 0);
        }
        Due.is("all to the left", h.fromWhere(20), Due.bits(0, 1, 2, 3, 4, 5, 6, 7, 8, 9, 10, 11, 12, 13, 14, 16, 17));
        Due.is("the last one", h.fromWhere(23), 0);
        Due.is("beside it", h.fromWhere(22), Due.bits(19));
        Doc.says(14, "FROM WHERE (bits); NONE: no such ROOM.");
        Doc.bounds("fromWhere(r)", h::fromWhere, 0, 23, -1);
    }

    private static void meet() {
        Doc.says(15, "where THE WAYS of two ROOMS first pass the same ROOM (either may be it itself, if it lies on the other one's WAY)");
        GrilleHotel h = new GrilleHotel();
        Due.is("the second is it", h.meet(0, 20), 20);
        Due.is("the first is it", h.meet(20, 0), 20);
        Due.is("the next one up", h.meet(3, 7), 7);
        Due.is("beside the other one's way", h.meet(0, 21), -2);
        h.louvre(16, 2);
        Due.is("on floor 5", h.meet(0, 1), 21);
        Due.is("on floor 5", h.meet(1, 0), 21);
        h.louvre(0, 2);
        Due.is("where they first do", h.meet(0, 1), 5);
        Due.is("not on its floor", h.meet(4, 5), 21);
        Doc.says(15, "MEET of two ROOMS (the same: it itself): the ROOM; -2: nowhere; NONE: no such ones.");
        for (int r = 0; r < 24; r++) {
            Due.is("meet(" + r + ", " + r + ")", h.meet(r, r), r);
        }
        Due.is("nowhere, not even at the cowl", h.meet(20, 23), -2);
        Due.is("nowhere", h.meet(2, 3), -2);
        Doc.bounds("meet(r, 0)", r -> h.meet(r, 0), 0, 23, -1);
        Doc.bounds("meet(0, q)", q -> h.meet(0, q), 0, 23, -1);
        Doc.bounds("meet(q, q)", q -> h.meet(q, q), 0, 23, -1);
    }

    private static void cowls() {
        Doc.says(16, "COWLS: by how many of the four ROOMS of FLOOR 5 something from FLOOR 0 goes out.");
        Doc.says(16, "`int cowls()`: COWLS.");
        GrilleHotel h = new GrilleHotel();
        Due.is("all four", h.cowls(), 4);
        h.louvre(0, 2);
        Due.is("three", h.cowls(), 3);
        Due.is("not what FLOOR 1 has", h.way(4, 3), 20);
        h.louvre(3, 0);
        Due.is("two", h.cowls(), 2);
        h.louvre(17, 2);
        Due.is("one", h.cowls(), 1);
        h.louvre(22, 0);
        Due.is("the louvres of FLOOR 5 matter nothing", h.cowls(), 1);
    }

    private static void row(GrilleHotel h, int r, int to, int turns, int... columns) {
        String call = "turn(" + r + ", " + to + ", ";
        Due.is(call + "100)", h.turn(r, to, 100), turns);
        for (int i = 0; i < 5; i++) {
            Due.is(call + i + ")", h.turn(r, to, i), i < columns.length ? columns[i] : -4);
        }
    }

    private static void turn() {
        Doc.says(17, "TURN: the fewest LOUVRES that must be set otherwise so that THE WAY of a ROOM passes another one");
        GrilleHotel h = new GrilleHotel();
        row(h, 0, 20, 0, 0, 0, 0, 0, 0);
        row(h, 0, 4, 0, 0);
        row(h, 0, 5, 1, 1);
        row(h, 0, 15, 3, 1, 2, 3);
        row(h, 3, 12, 3, 2, 1, 0);
        row(h, 19, 22, 1, 2);
        h.louvre(0, 0);
        row(h, 0, 4, 0, 0);
        h.louvre(3, 2);
        row(h, 3, 7, 0, 3);
        h.louvre(3, 0);
        row(h, 3, 7, 1, 3);
        Doc.says(17, "of like ones the least row of COLUMNS (FLOOR by FLOOR above it)");
        h = new GrilleHotel();
        row(h, 0, 21, 1, 0, 0, 0, 0, 1);
        row(h, 1, 20, 1, 0, 0, 0, 0, 0);
        row(h, 3, 22, 1, 2, 2, 2, 2, 2);
        row(h, 0, 23, 3, 0, 0, 1, 2, 3);
        h.louvre(5, 2);
        row(h, 0, 14, 1, 1, 2, 2);
        Due.is("nothing is set", h.way(0, 0), 4);
    }

    private static void turnPlaces() {
        Doc.says(17, "what 100 how many LOUVRES, else the COLUMN on the FLOOR what (0 to 4) above the next one");
        GrilleHotel h = new GrilleHotel();
        for (int what : new int[] {-1, 5, 99, 101, Integer.MIN_VALUE, Integer.MAX_VALUE}) {
            Due.is("turn(0, 20, " + what + ")", h.turn(0, 20, what), -1);
            Due.is("turn(0, 7, " + what + ")", h.turn(0, 7, what), -1);
        }
        Doc.says(17, "-2: it can't be; -4: no such place; NONE: no such ones.");
        int[][] far = {{0, 6}, {0, 7}, {3, 5}, {0, 11}, {3, 8}, {16, 22}, {16, 23}};
        for (int[] pair : far) {
            for (int what : new int[] {0, 1, 4, 100}) {
                Due.is("turn(" + pair[0] + ", " + pair[1] + ", " + what + ")", h.turn(pair[0], pair[1], what), -2);
            }
        }
        for (int floor = 1; floor <= 5; floor++) {
            Due.is("the last place, FLOOR " + floor, h.turn(1, 4 * floor + 1, floor - 1), 1);
            Due.is("one behind it, FLOOR " + floor, h.turn(1, 4 * floor + 1, floor), floor == 5 ? -1 : -4);
        }
        Doc.says(17, "TURN from a ROOM to one on a higher FLOOR");
        Doc.bounds("turn(r, 20, 100)", r -> h.turn(r, 20, 100), 0, 19, -1);
        Doc.bounds("turn(0, to, 100)", to -> h.turn(0, to, 100), 4, 23, -1);
        Doc.bounds("turn(13, to, 100)", to -> h.turn(13, to, 100), 16, 23, -1);
        for (int to = 0; to < 24; to++) {
            Due.is("from FLOOR 5 to " + to, h.turn(22, to, 100), -1);
        }
    }

    private static void ways() {
        Doc.says(18, "WAYS: in how many ways (rows of COLUMNS, whatever the LOUVRES are) something may rise from a ROOM to another one.");
        GrilleHotel h = new GrilleHotel();
        int[][] rows = {{0, 4, 1}, {0, 5, 1}, {0, 6, 0}, {0, 7, 0}, {3, 7, 1}, {3, 6, 1}, {3, 5, 0}, {1, 4, 1}, {1, 6, 1}, {1, 7, 0},
            {0, 8, 2}, {0, 9, 2}, {0, 10, 1}, {0, 11, 0}, {1, 9, 3}, {3, 11, 2}, {0, 20, 21}, {0, 23, 13}, {3, 20, 13},
            {1, 21, 46}, {1, 22, 43}, {18, 22, 1}, {16, 23, 0}};
        for (int[] row : rows) {
            Due.is("ways(" + row[0] + ", " + row[1] + ")", h.ways(row[0], row[1]), row[2]);
        }
        for (int r = 0; r < 20; r++) {
            h.louvre(r, r % 3);
        }
        for (int r = 0; r < 20; r++) {
            for (int to = r - r % 4 + 4; to < 24; to++) {
                Due.is("ways(" + r + ", " + to + ")", h.ways(r, to), byHand(r, to));
            }
        }
        Doc.says(18, "WAYS from a ROOM to one on a higher FLOOR; NONE: no such ones.");
        Doc.bounds("ways(r, 20)", r -> h.ways(r, 20), 0, 19, -1);
        Doc.bounds("ways(0, to)", to -> h.ways(0, to), 4, 23, -1);
        Doc.bounds("ways(13, to)", to -> h.ways(13, to), 16, 23, -1);
        for (int to = 0; to < 24; to++) {
            Due.is("from FLOOR 5 to " + to, h.ways(22, to), -1);
        }
    }

    /** One step at a time, to each column that is no more than one away. */
    private static int byHand(int r, int to) {
        if (r / 4 == to / 4) {
            return r == to ? 1 : 0;
        }
        int ways = 0;
        for (int column = 0; column < 4; column++) {
            if (Math.abs(column - r % 4) <= 1) {
                ways += byHand(r - r % 4 + 4 + column, to);
            }
        }
        return ways;
    }

    private static void is(GrilleHotel h, int rooms, int... shut) {
        Due.is("how many", h.stockings(rooms, 0), shut.length);
        Due.is("which", h.stockings(rooms, 1), Due.bits(shut));
    }

    private static void stockings() {
        Doc.says(19, "the fewest open GRILLES of ROOMS with GUESTS that must be shut (theirs or others') so that nothing from some ROOMS (bits) can come out in a ROOM by THE WAYS as they are");
        GrilleHotel h = Due.hotel("", 0, 0, 8, 0);
        is(h, Due.bits(0), 0);
        is(h, Due.bits(8));
        is(h, Due.bits(1));
        is(h, 0);
        h.louvre(0, 2);
        is(h, Due.bits(0));
        h.louvre(0, 1);
        h.guest(1, 0);
        h.louvre(1, 0);
        Due.is("others' are fewer", h.stockings(Due.bits(0, 1), 1), Due.bits(8));
        h.guest(20, 0);
        Due.is("theirs are as few and the least bits", h.stockings(Due.bits(0, 1), 1), Due.bits(0, 1));
        Doc.says(19, "(a shut one sends nothing up, and nothing comes out there; SINS are not asked)");
        h.grille(1, false);
        is(h, Due.bits(0, 1), 0);
        h.grille(1, true);
        h.grille(20, false);
        is(h, Due.bits(0, 1), 8);
        h.grille(8, false);
        is(h, Due.bits(0, 1));
        GrilleHotel sins = Due.hotel("", 0, 9999, 8, 9999);
        is(sins, Due.bits(0), 0);
        Doc.says(19, "of like ones the least bits");
        GrilleHotel two = Due.hotel("", 4, 0, 8, 0, 3, 0, 7, 0, 19, 0, 23, 0);
        is(two, Due.bits(4), 4);
        is(two, Due.bits(19), 19);
        is(two, Due.bits(3, 4, 19), 3, 4, 19);
        is(two, Due.bits(3, 7), 3, 7);
    }

    private static void stockingsArguments() {
        Doc.says(19, "STOCKINGS for some ROOMS (bits), what 0 how many, 1 which (bits); NONE: no such ones.");
        GrilleHotel h = Due.hotel("", 0, 0, 8, 0);
        Doc.bounds("stockings(rooms, 0)", rooms -> h.stockings(rooms, 0), 0, 0xFFFFFF, -1);
        Doc.bounds("stockings(1, what)", what -> h.stockings(1, what), 0, 1, -1);
        for (int rooms : new int[] {-1, 1 << 24, 0x1000001, Integer.MIN_VALUE, Integer.MAX_VALUE}) {
            Due.is("stockings(" + rooms + ", 0)", h.stockings(rooms, 0), -1);
            Due.is("stockings(" + rooms + ", 1)", h.stockings(rooms, 1), -1);
        }
    }

    private static void ropes() {
        Doc.says(22, "from FLOOR 5, at any COLUMN, one ROOM's place down, left or right at a time");
        GrilleHotel h = new GrilleHotel();
        for (int r = 0; r < 24; r++) {
            Due.is("bends to " + r, h.ropes(r, 0, 0), 0);
            Due.is("places to " + r, h.ropes(r, 0, 1), 6 - r / 4);
        }
        Doc.says(22, "the fewest BENDS (a change of direction; down at first), then the fewest places; that: how many BENDS, how many places (both ends)");
        bends(greased(), 0, 0, 6);
        bends(greased(20), 16, 1, 3);
        bends(greased(20), 0, 1, 7);
        bends(greased(20, 21), 16, 1, 4);
        bends(greased(20, 21, 22), 16, 1, 5);
        bends(greased(21, 22, 23), 19, 1, 5);
        bends(greased(12, 8, 4), 0, 1, 7);
        // By column 2 it is one bend and eight places; by columns 1 and 0 it were two bends and seven places.
        bends(greased(5, 20), 0, 1, 8);
        bends(greased(5, 6, 7, 20), 0, 2, 7);
        bends(greased(8, 5, 22, 23), 1, 3, 8);
    }

    private static void bends(GrilleHotel h, int r, int bends, int places) {
        Due.is("bends to " + r, h.ropes(r, 0, 0), bends);
        Due.is("places to " + r, h.ropes(r, 0, 1), places);
    }

    /** Grease of 3 in each of these rooms, which come by their floor and not ahead of FLOOR 1. */
    private static GrilleHotel greased(int... rooms) {
        GrilleHotel h = new GrilleHotel();
        StringBuilder law = new StringBuilder("c9(1=1)");
        for (int p : rooms) {
            h.guest(p - 4, 3);
            law.append(";k3(r=").append(p - 4).append("&p=").append(p).append(")");
        }
        Due.is("law", Due.law(h, law.toString()), 1 + rooms.length);
        h.hours(1);
        Due.is("grease", h.count(8), 3 * rooms.length);
        return h;
    }

    private static void ropesBound() {
        Doc.says(22, "never through a place whose GREASE is above a bound");
        GrilleHotel h = greased(12);
        Due.is("one below it", h.ropes(12, 2, 0), -2);
        Due.is("at it", h.ropes(12, 3, 0), 0);
        Due.is("one above it", h.ropes(12, 4, 0), 0);
        Due.is("past it", h.ropes(8, 2, 0), 1);
        Due.is("through it", h.ropes(8, 3, 0), 0);
        Doc.says(22, "-2: no way; NONE: no such ones.");
        h = greased(20, 21, 22, 23);
        for (int r = 0; r < 24; r++) {
            Due.is("no way to " + r, h.ropes(r, 2, r % 2), -2);
            Due.is("a way to " + r, h.ropes(r, 3, 0), 0);
        }
        h = greased(16, 21);
        Due.is("on every side", greased(16, 13, 8).ropes(12, 0, 0), -2);
        Due.is("never up", greased(16, 13).ropes(12, 0, 1), -2);
        Due.is("but on one", h.ropes(17, 0, 0), 1);
    }

    private static void ropesArguments() {
        Doc.says(22, "ROPES to a ROOM, GREASE no more than a bound (0 to 99999) anywhere, what 0 BENDS, 1 places");
        GrilleHotel h = greased(12);
        Doc.bounds("ropes(r, 0, 1)", r -> h.ropes(r, 0, 1), 0, 23, -1);
        Doc.bounds("ropes(0, bound, 1)", bound -> h.ropes(0, bound, 1), 0, 99999, -1);
        Doc.bounds("ropes(0, 0, what)", what -> h.ropes(0, 0, what), 0, 1, -1);
        Due.is("the least bound", h.ropes(12, 0, 0), -2);
        Due.is("the greatest bound", h.ropes(12, 99999, 0), 0);
    }
}
