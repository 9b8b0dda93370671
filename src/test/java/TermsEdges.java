/** The edges of what the document's Terms name: rooms, guests, louvres, what is felt, grease, cowl, hour, ways. */
final class TermsEdges {
    private TermsEdges() {
    }

    static void all() {
        atFirst();
        guests();
        grilles();
        louvres();
        feltAtMost();
        greaseAtMost();
        cowlAtMost();
        hourAtMost();
        sides();
        top();
    }

    private static void atFirst() {
        GrilleHotel h = new GrilleHotel();
        Doc.says(1, "No GUESTS, no LAW; THE SEED 1.");
        Due.is("guests", h.count(2), 0);
        Due.is("rules", h.count(4), 0);
        Due.is("X", h.count(6), 1);
        Due.is("none is kept", h.undo(), false);
        Due.is("the tape", h.count(5), 0);
        Due.is("NONE", GrilleHotel.NONE, -1);
        Doc.says(1, "Each: a GUEST or none (at first)");
        everyRoom(h, 0, -2);
        everyRoom(h, 1, 0);
        Doc.says(1, "its GRILLE open (at first) or shut");
        everyRoom(h, 2, 1);
        Doc.says(1, "a LOUVRE (0 left, 1 straight (at first), 2 right)");
        everyRoom(h, 3, 1);
        Doc.says(1, "GREASE (0 at first");
        everyRoom(h, 4, 0);
        Doc.says(1, "FEELS: how much of what was sent up by each ROOM has come out there (0 at first");
        everyRoom(h, 5, 0);
        Doc.says(1, "THE COWL: how much went out at the top (0 at first");
        Due.is("count(1)", h.count(1), 0);
        Doc.says(1, "THE HOUR (0 at first).");
        Due.is("count(0)", h.count(0), 0);
        Doc.says(1, "no blanks (none at first)");
        h.guest(0, 9);
        Due.is("without a law nothing goes up", h.tried(1, 3), 9);
    }

    private static void everyRoom(GrilleHotel h, int what, int due) {
        for (int r = 0; r < 24; r++) {
            Due.is("roomIs(" + r + ", " + what + ")", h.roomIs(r, what), due);
        }
    }

    private static void guests() {
        GrilleHotel h = new GrilleHotel();
        Doc.says(2, "with SINS (0 to 9999)");
        Doc.bounds("guest(5, sins)", sins -> h.guest(5, sins) ? 1 : 0, 0, 9999, 0);
        for (int sins : new int[] {0, 1, 9998, 9999}) {
            h.guest(5, sins);
            Due.is("roomIs(5, 0)", h.roomIs(5, 0), sins);
        }
        Doc.says(2, "A GUEST in a ROOM (in place of the one before; the ROOM FEELS nothing any more): true; false: no such ones.");
        Doc.bounds("guest(r, 1)", r -> h.guest(r, 1) ? 1 : 0, 0, 23, 0);
        Due.is("those alone came", h.count(2), Due.bits(0, 5, 23));
        GrilleHotel felt = Due.hotel("c5(1=1);d10(1=1)", 0, 9, 4, 0);
        felt.hours(1);
        Due.is("felt before", felt.feels(4, 0), 5);
        felt.guest(4, -1);
        felt.guest(4, 10000);
        Due.is("a refused one leaves it felt", felt.feels(4, 0), 5);
        Due.is("in place", felt.guest(4, 0), true);
        Due.is("felt of 0", felt.feels(4, 0), 0);
        Due.is("felt in all", felt.roomIs(4, 5), 0);
    }

    private static void grilles() {
        GrilleHotel h = new GrilleHotel();
        Doc.says(3, "A GRILLE is open or shut: true; false: no such ROOM.");
        Doc.bounds("grille(r, false)", r -> h.grille(r, false) ? 1 : 0, 0, 23, 0);
        Due.is("those alone are shut", h.count(3), 0xFFFFFF - Due.bits(0, 23));
        Due.is("shut again", h.grille(0, false), true);
        Due.is("it stays shut", h.roomIs(0, 2), 0);
        Doc.bounds("grille(r, true)", r -> h.grille(r, true) ? 1 : 0, 0, 23, 0);
        Due.is("all are open", h.count(3), 0xFFFFFF);
    }

    private static void louvres() {
        GrilleHotel h = new GrilleHotel();
        Doc.says(4, "A LOUVRE: true; false: no such ones.");
        Doc.bounds("louvre(7, set)", set -> h.louvre(7, set) ? 1 : 0, 0, 2, 0);
        Due.is("the last that was taken", h.roomIs(7, 3), 2);
        Doc.bounds("louvre(r, 0)", r -> h.louvre(r, 0) ? 1 : 0, 0, 23, 0);
        for (int r = 0; r < 24; r++) {
            Due.is("roomIs(" + r + ", 3)", h.roomIs(r, 3), r == 0 || r == 23 ? 0 : r == 7 ? 2 : 1);
        }
    }

    /** Room 0 sends up 99990 in ten fillings of its guest. */
    private static void sendMuch(GrilleHotel h) {
        for (int i = 0; i < 10; i++) {
            h.guest(0, 9999);
            h.hours(101);
        }
    }

    private static int sendFrom(GrilleHotel h, int r, int sins) {
        h.guest(r, sins);
        return h.hours(1);
    }

    private static void feltAtMost() {
        Doc.says(11, "has come out there (0 at first; 99999 at most each)");
        GrilleHotel h = Due.hotel("c99(1=1);d10(p=20)", 20, 0);
        sendMuch(h);
        sendFrom(h, 0, 8);
        Due.is("one below", h.feels(20, 0), 99998);
        h.keep();
        sendFrom(h, 0, 1);
        Due.is("at it", h.feels(20, 0), 99999);
        Due.is("what comes out beyond it", sendFrom(h, 0, 1), 1);
        Due.is("no more", h.feels(20, 0), 99999);
        Due.is("in all", h.roomIs(20, 5), 99999);
        sendFrom(h, 4, 7);
        Due.is("of each for itself", h.feels(20, 4), 7);
        Due.is("so it may be more in all", h.roomIs(20, 5), 100006);
        Due.is("tried, too", h.tried(1, 120), 100006);
        h.undo();
        sendFrom(h, 0, 99);
        Due.is("from below it to beyond it", h.feels(20, 0), 99999);
        Due.is("in all", h.roomIs(20, 5), 99999);
    }

    private static void greaseAtMost() {
        Doc.says(8, "GREASE (0 at first; 99999 at most)");
        GrilleHotel h = Due.hotel("c99(1=1);k99(p=20)");
        sendMuch(h);
        sendFrom(h, 0, 8);
        Due.is("one below", h.roomIs(20, 4), 99998);
        h.keep();
        sendFrom(h, 0, 1);
        Due.is("at it", h.roomIs(20, 4), 99999);
        sendFrom(h, 0, 1);
        Due.is("no more", h.roomIs(20, 4), 99999);
        Due.is("of all", h.count(8), 99999);
        h.guest(4, 6);
        Due.is("it settles all the same", h.tried(1, 1), 6);
        Due.is("and goes no farther", h.tried(1, 2), 0);
        h.undo();
        sendFrom(h, 0, 99);
        Due.is("from below it to beyond it", h.roomIs(20, 4), 99999);
        Due.law(h, "c9(1=1);k9(p=16)");
        sendFrom(h, 0, 9);
        Due.is("of each ROOM for itself", h.count(8), 99999 + 9);
    }

    private static void cowlAtMost() {
        Doc.says(8, "THE COWL: how much went out at the top (0 at first; 999999 at most)");
        GrilleHotel h = Due.hotel("c99(1=1)");
        for (int i = 0; i < 4; i++) {
            for (int r = 0; r < 24; r++) {
                h.guest(r, 9999);
            }
            h.hours(101);
        }
        for (int r = 0; r < 4; r++) {
            h.guest(r, 9999);
        }
        h.hours(101);
        sendFrom(h, 0, 98);
        Due.is("one below", h.count(1), 999998);
        h.keep();
        sendFrom(h, 0, 1);
        Due.is("at it", h.count(1), 999999);
        sendFrom(h, 0, 1);
        Due.is("no more", h.count(1), 999999);
        Due.is("it is gone all the same", h.roomIs(0, 0), 0);
        h.undo();
        sendFrom(h, 0, 99);
        Due.is("from below it to beyond it", h.count(1), 999999);
        Doc.says(9, "2 how much went out at the top (even beyond what THE COWL holds)");
        h.guest(0, 99);
        h.guest(23, 99);
        Due.is("tried(1, 2)", h.tried(1, 2), 198);
        h.undo();
        h.guest(0, 99);
        Due.is("tried(1, 2) from one below", h.tried(1, 2), 99);
    }

    /** It takes 417 calls, so that little more may be asked of it. */
    private static GrilleHotel atHour99998() {
        GrilleHotel h = new GrilleHotel();
        for (int i = 0; i < 416; i++) {
            h.hours(240);
        }
        h.hours(158);
        h.guest(0, 50);
        h.guest(4, 0);
        Due.law(h, "c5(1=1);d10(1=1)");
        return h;
    }

    private static void hourAtMost() {
        Doc.says(8, "THE HOUR is one more (99999 at most: then none goes by).");
        GrilleHotel h = atHour99998();
        Due.is("one below", h.count(0), 99998);
        Due.is("one goes by", h.hours(1), 5);
        Due.is("at it", h.count(0), 99999);
        int x = h.count(6);
        Due.is("none goes by", h.hours(1), 0);
        Due.is("nor of more", h.hours(240), 0);
        Due.is("the hour stays", h.count(0), 99999);
        Due.is("the sins stay", h.roomIs(0, 0), 45);
        Due.is("no number is drawn", h.count(6), x);
        Due.is("nothing is felt", h.feels(4, 0), 5);
        Due.is("no such n all the same", h.hours(0), -1);
        Due.is("no such n all the same", h.hours(241), -1);
        Doc.says(9, "HOURS (1 to 240; as many as can) that are tried");
        Due.is("none can", h.tried(240, 0), 0);
        Due.is("none can", h.tried(1, 3), 45);
        GrilleHotel one = atHour99998();
        Due.is("one of two can", one.tried(2, 0), 5);
        Due.is("one of 240 can", one.tried(240, 3), 45);
        Doc.says(8, "HOURS (1 to 240; as many as can) go by: how much came out in ROOMS; NONE: no such n.");
        Due.is("one of two can", one.hours(2), 5);
        Due.is("at it", one.count(0), 99999);
        GrilleHotel h2 = Due.hotel("c1(1=1);d10(1=1)", 0, 900, 4, 0);
        Doc.bounds("hours(n)", h2::hours, 1, 240, -1);
        Due.is("1 and 240 went by", h2.count(0), 241);
        Due.is("so much came out", h2.feels(4, 0), 241);
    }

    private static void sides() {
        Doc.says(12, "by its LOUVRE to the COLUMN one less, the same, or one more (0, 3 at the sides: it stays there)");
        int[][] columns = {{0, 0, 1}, {0, 1, 2}, {1, 2, 3}, {2, 3, 3}};
        GrilleHotel h = new GrilleHotel();
        for (int r = 0; r < 20; r++) {
            for (int set = 0; set <= 2; set++) {
                h.louvre(r, set);
                Due.is("way(" + r + ", 0), louvre " + set, h.way(r, 0), r - r % 4 + 4 + columns[r % 4][set]);
            }
            h.louvre(r, 1);
        }
        Doc.says(12, "and so on by the LOUVRE of each ROOM it passes, to FLOOR 5");
        for (int r : new int[] {0, 5, 10, 15}) {
            h.louvre(r, 2);
        }
        int[] way = {5, 10, 15, 19, 23, 24};
        for (int i = 0; i < way.length; i++) {
            Due.is("way(0, " + i + ")", h.way(0, i), way[i]);
        }
    }

    private static void top() {
        GrilleHotel h = new GrilleHotel();
        Doc.says(12, "to FLOOR 5, behind that to THE COWL");
        for (int r = 20; r < 24; r++) {
            for (int set = 0; set <= 2; set++) {
                h.louvre(r, set);
                Due.is("way(" + r + ", 0), louvre " + set, h.way(r, 0), 24);
                Due.is("way(" + r + ", 1), louvre " + set, h.way(r, 1), -2);
            }
        }
        Doc.says(12, "the ROOM at place i (0 on; behind the last one 24, THE COWL); -2: no such place");
        for (int floor = 0; floor <= 5; floor++) {
            int r = 4 * floor + 1;
            int last = 5 - floor;
            Due.is("way(" + r + ", " + last + ")", h.way(r, last), 24);
            Due.is("one below it", last > 0 ? h.way(r, last - 1) : 21, 21);
            Due.is("one above it", h.way(r, last + 1), -2);
            Due.is("place -1", h.way(r, -1), -2);
            Due.is("the farthest", h.way(r, Integer.MAX_VALUE), -2);
            Due.is("the farthest", h.way(r, Integer.MIN_VALUE), -2);
        }
        Doc.says(12, "-2: no such place; NONE: no such ROOM.");
        Doc.bounds("way(r, 0)", r -> h.way(r, 0), 0, 23, -1);
        Doc.bounds("way(r, -1)", r -> h.way(r, -1), 0, 23, -1);
        Doc.says(12, "ROOMS 0 to 23: FLOOR 0 to 5 (ROOM through 4), COLUMN 0 to 3 (ROOM modulo 4).");
        GrilleHotel straight = new GrilleHotel();
        for (int r = 0; r < 24; r++) {
            Due.is("places above " + r, straight.way(r, 5 - r / 4), 24);
            Due.is("the way of " + r, straight.way(r, 0), r < 20 ? r + 4 : 24);
            Due.is("the column of " + r, r < 20 ? straight.turn(r, r + 4, 0) : r % 4, r % 4);
        }
        Doc.says(6, "f the FLOOR of that");
        for (int r = 0; r < 24; r++) {
            Due.is("f of " + r, Due.hotel("c1+f(r=p)", r, 9).tried(1, 2), 1 + r / 4);
        }
    }
}
