/** Promises 1 to 4, 10, 11, 21, 26 to 31: rooms and guests, what they feel, kept and undone. */
public final class RoomsTest {
    public static void main(String[] args) {
        newObject();
        guest();
        grille();
        louvre();
        feelings();
        dust();
        seed();
        keptAndUndone();
        check();
        count();
        Due.end("RoomsTest");
    }

    private static void newObject() {
        GrilleHotel h = new GrilleHotel();
        int[] counts = {0, 0, 0, 0xFFFFFF, 0, 0, 1, 0, 0};
        for (int what = 0; what < counts.length; what++) {
            Due.is("1: count(" + what + ")", h.count(what), counts[what]);
        }
        int[] room = {-2, 0, 1, 1, 0, 0, 0, -2};
        for (int r = 0; r < 24; r++) {
            for (int what = 0; what < room.length; what++) {
                Due.is("1: roomIs(" + r + ", " + what + ")", h.roomIs(r, what), room[what]);
            }
        }
        Due.is("1: undo", h.undo(), false);
        Due.is("1: hours", h.hours(240), 0);
        Due.is("1: NONE", GrilleHotel.NONE, -1);
    }

    private static void guest() {
        GrilleHotel h = new GrilleHotel();
        Due.is("2: guest(0, 0)", h.guest(0, 0), true);
        Due.is("2: guest(23, 9999)", h.guest(23, 9999), true);
        Due.is("2: roomIs(0, 0)", h.roomIs(0, 0), 0);
        Due.is("2: roomIs(0, 1)", h.roomIs(0, 1), 1);
        Due.is("2: roomIs(23, 0)", h.roomIs(23, 0), 9999);
        Due.is("2: guest(-1, 5)", h.guest(-1, 5), false);
        Due.is("2: guest(24, 5)", h.guest(24, 5), false);
        Due.is("2: guest(0, -1)", h.guest(0, -1), false);
        Due.is("2: guest(0, 10000)", h.guest(0, 10000), false);
        Due.is("2: guest(min, max)", h.guest(Integer.MIN_VALUE, Integer.MAX_VALUE), false);
        Due.is("2: count(2)", h.count(2), Due.bits(0, 23));
        Due.is("2: in place", h.guest(23, 1), true);
        Due.is("2: count(7)", h.count(7), 1);
        // The one who comes in place of another feels nothing of what that one felt.
        GrilleHotel felt = felt();
        Due.is("2: felt before", felt.roomIs(4, 5), 5);
        felt.guest(4, 3);
        Due.is("2: felt behind", felt.roomIs(4, 5), 0);
        Due.is("2: felt behind of 0", felt.feels(4, 0), 0);
        Due.is("2: nobody feels of 0", felt.breakfast(0), 0);
    }

    /** A hotel in which room 4 feels 5 of room 0, room 8 feels 5 of room 4. */
    private static GrilleHotel felt() {
        GrilleHotel h = new GrilleHotel();
        h.guest(0, 50);
        h.guest(4, 50);
        h.guest(8, 0);
        Due.law(h, "c5(1=1);d10(1=1)");
        h.hours(1);
        return h;
    }

    private static void grille() {
        GrilleHotel h = new GrilleHotel();
        Due.is("3: grille(7, false)", h.grille(7, false), true);
        Due.is("3: roomIs(7, 2)", h.roomIs(7, 2), 0);
        Due.is("3: count(3)", h.count(3), 0xFFFFFF & ~(1 << 7));
        Due.is("3: grille(7, true)", h.grille(7, true), true);
        Due.is("3: roomIs(7, 2)", h.roomIs(7, 2), 1);
        Due.is("3: again", h.grille(7, true), true);
        Due.is("3: count(3)", h.count(3), 0xFFFFFF);
        Due.is("3: grille(-1)", h.grille(-1, false), false);
        Due.is("3: grille(24)", h.grille(24, false), false);
        Due.is("3: count(3)", h.count(3), 0xFFFFFF);
    }

    private static void louvre() {
        GrilleHotel h = new GrilleHotel();
        for (int set = 0; set <= 2; set++) {
            Due.is("4: louvre(5, " + set + ")", h.louvre(5, set), true);
            Due.is("4: roomIs(5, 3)", h.roomIs(5, 3), set);
        }
        Due.is("4: louvre(5, 3)", h.louvre(5, 3), false);
        Due.is("4: louvre(5, -1)", h.louvre(5, -1), false);
        Due.is("4: louvre(24, 1)", h.louvre(24, 1), false);
        Due.is("4: louvre(-1, 1)", h.louvre(-1, 1), false);
        Due.is("4: roomIs(5, 3)", h.roomIs(5, 3), 2);
    }

    private static void feelings() {
        GrilleHotel h = felt();
        Due.is("10: roomIs(4, 0)", h.roomIs(4, 0), 45);
        Due.is("10: roomIs(4, 6)", h.roomIs(4, 6), 5);
        Due.is("10: roomIs(4, 7)", h.roomIs(4, 7), 0);
        Due.is("10: roomIs(8, 7)", h.roomIs(8, 7), 4);
        Due.is("10: roomIs(0, 6)", h.roomIs(0, 6), 0);
        Due.is("10: roomIs(0, 7)", h.roomIs(0, 7), -2);
        Due.is("10: roomIs(0, 8)", h.roomIs(0, 8), -1);
        Due.is("10: roomIs(0, -1)", h.roomIs(0, -1), -1);
        Due.is("10: roomIs(24, 0)", h.roomIs(24, 0), -1);
        Due.is("10: roomIs(-1, 0)", h.roomIs(-1, 0), -1);
        Due.is("11: feels(4, 0)", h.feels(4, 0), 5);
        Due.is("11: feels(4, 4)", h.feels(4, 4), 0);
        Due.is("11: feels(24, 0)", h.feels(24, 0), -1);
        Due.is("11: feels(0, 24)", h.feels(0, 24), -1);
        Due.is("11: feels(-1, 0)", h.feels(-1, 0), -1);
        Due.is("11: feels(0, -1)", h.feels(0, -1), -1);
        Due.is("21: most, of like ones the lowest", h.breakfast(100), 4);
        Due.is("21: of 0", h.breakfast(0), Due.bits(4));
        Due.is("21: of 4", h.breakfast(4), Due.bits(8));
        Due.is("21: of 8", h.breakfast(8), 0);
        Due.is("21: breakfast(24)", h.breakfast(24), -1);
        Due.is("21: breakfast(-1)", h.breakfast(-1), -1);
        Due.is("21: breakfast(99)", h.breakfast(99), -1);
        Due.is("21: breakfast(101)", h.breakfast(101), -1);
        Due.is("21: nobody", new GrilleHotel().breakfast(100), -2);
        // Two feel of the same one, and like much of two: the lowest is told.
        h.guest(4, 0);
        h.grille(4, false);
        h.hours(1);
        Due.is("10: feels of two", h.roomIs(8, 5), 10);
        Due.is("10: like much of two", h.roomIs(8, 7), 0);
        Due.is("21: of 0 behind", h.breakfast(0), Due.bits(8));
        feltOfItself();
        feltInTheLowest();
        feltAtMost();
    }

    /** A guest who changes rooms may come to feel something of the room where he now is. */
    private static void feltOfItself() {
        GrilleHotel h = felt();
        Due.is("11: register", Due.register(h, "4@0"), 1);
        Due.is("11: feels(0, 0)", h.feels(0, 0), 5);
        Due.is("11: feels(4, 0)", h.feels(4, 0), 0);
        Due.is("10: roomIs(0, 7)", h.roomIs(0, 7), 0);
    }

    private static void feltInTheLowest() {
        GrilleHotel h = new GrilleHotel();
        h.guest(1, 1);
        h.guest(5, 0);
        Due.law(h, "c5(1=1);d10(1=1)");
        h.hours(1);
        Due.is("10: one of room 1", h.roomIs(5, 7), 1);
        Due.register(h, "5@1");
        Due.is("21: room 1", h.breakfast(100), 1);
        Due.is("21: of room 1", h.breakfast(1), Due.bits(1));
        Due.register(h, "1@0");
        Due.is("21: room 0", h.breakfast(100), 0);
        Due.is("21: of room 1", h.breakfast(1), Due.bits(0));
        Due.is("26: median of 0 1", h.dust(1), 0);
        Due.register(h, "5!");
        Due.is("26: room 0 alone", h.dust(0), 0);
        Due.is("26: room 0 alone", h.dust(1), 1);
        Due.register(h, "0!");
        Due.is("31: no sins", h.count(7), 0);
        Due.is("26: none", h.dust(1), -2);
    }

    private static void feltAtMost() {
        GrilleHotel h = new GrilleHotel();
        h.guest(4, 0);
        Due.law(h, "c99(1=1);d10(1=1)");
        int out = 0;
        for (int i = 0; i < 11; i++) {
            h.guest(0, 9999);
            out += h.hours(102);
        }
        Due.is("8: all came out", out, 11 * 9999);
        Due.is("11: 99999 at most", h.feels(4, 0), 99999);
        Due.is("10: 99999 at most", h.roomIs(4, 5), 99999);
    }

    private static void dust() {
        GrilleHotel h = new GrilleHotel();
        Due.is("26: no guests", h.dust(0), -2);
        Due.is("26: no guests", h.dust(1), -2);
        Due.is("26: dust(2)", h.dust(2), -1);
        Due.is("26: dust(-1)", h.dust(-1), -1);
        h.guest(9, 3);
        Due.is("26: one", h.dust(0), 9);
        Due.is("26: one", h.dust(1), 0);
        h = felt();
        Due.is("26: least", h.dust(0), 0);
        Due.is("26: median of 0 5 5", h.dust(1), 5);
        h.guest(23, 0);
        Due.is("26: median of 0 0 5 5, the lower", h.dust(1), 0);
        Due.is("26: of like ones the lowest", h.dust(0), 0);
        Due.register(h, "0!");
        Due.is("26: least behind", h.dust(0), 23);
        Due.is("26: with guests, no such what", h.dust(2), -1);
    }

    private static void seed() {
        GrilleHotel h = new GrilleHotel();
        Due.is("27: seed(65535)", h.seed(65535), true);
        Due.is("27: count(6)", h.count(6), 65535);
        Due.is("27: seed(65536)", h.seed(65536), false);
        Due.is("27: seed(-1)", h.seed(-1), false);
        Due.is("27: count(6)", h.count(6), 65535);
        Due.is("27: seed(0)", h.seed(0), true);
        Due.is("27: count(6)", h.count(6), 0);
        h.guest(0, 5);
        h.guest(4, 0);
        Due.law(h, "c1(1=1)");
        h.hours(1);
        Due.is("27: the first draw behind 0", h.count(6), 13849);
    }

    private static void keptAndUndone() {
        GrilleHotel h = felt();
        Due.is("29: none kept", h.undo(), false);
        Due.law(h, "c5(1=1);k1(1=1)");
        h.hours(2);
        h.louvre(3, 0);
        h.grille(2, false);
        h.seed(77);
        Due.is("28: keep", h.keep(), 3);
        int[] before = counts(h);
        int felt = h.feels(4, 0);
        h.guest(20, 9);
        h.guest(4, 9);
        h.louvre(3, 2);
        h.grille(2, true);
        h.seed(78);
        h.hours(7);
        Due.law(h, "c5(1=1)");
        Due.feed(h, "abc");
        Due.is("29: undo", h.undo(), true);
        for (int what = 0; what <= 8; what++) {
            if (what != 4 && what != 5) {
                Due.is("29: count(" + what + ")", h.count(what), before[what]);
            }
        }
        Due.is("29: the law stays", h.count(4), 1);
        Due.is("29: the tape stays", h.count(5), 20);
        Due.is("29: louvre", h.roomIs(3, 3), 0);
        Due.is("29: grille", h.roomIs(2, 2), 0);
        Due.is("29: feels", h.feels(4, 0), felt);
        Due.is("29: all felt", h.roomIs(4, 5), felt);
        Due.is("29: guest", h.roomIs(20, 0), -2);
        h.guest(20, 9);
        Due.is("29: again", h.undo(), true);
        Due.is("29: again", h.roomIs(20, 0), -2);
        h.guest(21, 9);
        h.keep();
        h.guest(21, 8);
        h.undo();
        Due.is("29: as kept last", h.roomIs(21, 0), 9);
    }

    private static int[] counts(GrilleHotel h) {
        int[] all = new int[9];
        for (int what = 0; what < all.length; what++) {
            all[what] = h.count(what);
        }
        return all;
    }

    private static void check() {
        GrilleHotel h = new GrilleHotel();
        h.guest(0, 256 + 7);
        h.guest(2, 9999);
        Due.feed(h, Due.bytes(7, 0, 9999 % 256, 0, 0));
        Due.is("30: right", h.check(5), -1);
        Due.is("30: empty then", h.count(5), 0);
        Due.feed(h, Due.bytes(7, 0, 16));
        Due.is("30: the first that is not", h.check(3), 2);
        Due.feed(h, Due.bytes(8, 1));
        Due.is("30: the first of two", h.check(2), 0);
        Due.feed(h, Due.bytes(7, 1));
        Due.is("30: no guest, not 0", h.check(2), 1);
        Due.feed(h, Due.bytes(8));
        Due.is("30: none asked", h.check(0), -1);
        Due.is("30: empty then", h.count(5), 0);
        Due.is("30: has none", h.check(1), -2);
        Due.feed(h, Due.bytes(7));
        Due.is("30: check(21) of 20", h.check(21), -2);
        Due.is("30: check(-1)", h.check(-1), -2);
        Due.feed(h, Due.bytes(7));
        Due.is("30: check(25)", h.check(25), -2);
        Due.is("30: the tape stays", h.count(5), 40);
        Due.is("30: check(24)", h.check(24), 1);
    }

    private static void count() {
        GrilleHotel h = felt();
        Due.law(h, "c5(1=1);k2(1=1)");
        h.hours(1);
        Due.is("31: hour", h.count(0), 2);
        Due.is("31: guests", h.count(2), Due.bits(0, 4, 8));
        Due.is("31: rules", h.count(4), 2);
        Due.is("31: sins", h.count(7), 80);
        Due.is("31: grease of all", h.count(8), 10);
        Due.is("31: count(9)", h.count(9), -1);
        Due.is("31: count(-1)", h.count(-1), -1);
        h.feed(0, 0, 0, 0, 0);
        Due.is("31: tape", h.count(5), 20);
    }
}
