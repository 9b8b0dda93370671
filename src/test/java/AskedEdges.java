/** The edges of what is asked of rooms and of the hotel: what they are and feel, breakfast, dust, keeping, counting. */
final class AskedEdges {
    private AskedEdges() {
    }

    static void all() {
        roomIs();
        feels();
        breakfast();
        dust();
        median();
        firstRooms();
        keep();
        undo();
        kept();
        count();
    }

    /** Room 23 feels 3 of room 19 and 3 of room 3, room 22 feels 2 of room 2, and it has grease of 1. */
    private static GrilleHotel felt() {
        GrilleHotel h = Due.hotel("c3(1=1);k1(r=2&p=22);d10(f=5)", 3, 8, 19, 9, 2, 3, 22, 0, 23, 0);
        h.hours(1);
        return h;
    }

    private static void roomIs() {
        Doc.says(10, "Of a ROOM, what 0 SINS (no GUEST: -2), 1 a GUEST (1, 0), 2 the GRILLE open (1, 0), 3 the LOUVRE, 4 GREASE, 5 all it FEELS, 6 what it FEELS most of any ROOM, 7 that ROOM (nothing: -2); NONE: no such ones.");
        GrilleHotel h = felt();
        h.grille(22, false);
        h.louvre(22, 0);
        h.louvre(23, 2);
        int[][] rows = {{0, -2, 0, 1, 1, 0, 0, 0, -2}, {2, 0, 1, 1, 1, 0, 0, 0, -2}, {3, 5, 1, 1, 1, 0, 0, 0, -2},
            {22, 0, 1, 0, 0, 1, 2, 2, 2}, {23, 0, 1, 1, 2, 0, 6, 3, 3}};
        for (int[] row : rows) {
            for (int what = 0; what <= 7; what++) {
                Due.is("roomIs(" + row[0] + ", " + what + ")", h.roomIs(row[0], what), row[1 + what]);
            }
        }
        for (int r : new int[] {0, 5, 22, 23}) {
            Doc.bounds("roomIs(" + r + ", what)", what -> h.roomIs(r, what), 0, 7, -1);
        }
        Doc.bounds("roomIs(r, 0)", r -> h.roomIs(r, 0), 0, 23, -1);
        Doc.bounds("roomIs(r, 7)", r -> h.roomIs(r, 7), 0, 23, -1);
        Doc.says(10, "from which ROOM most (of like ones the lowest), how much");
        GrilleHotel more = felt();
        Due.is("of like ones", more.roomIs(23, 7), 3);
        more.guest(19, 9);
        more.guest(3, 2);
        more.hours(1);
        Due.is("one more of the higher one", more.roomIs(23, 7), 19);
        Due.is("how much", more.roomIs(23, 6), 6);
        more.guest(3, 1);
        more.guest(19, 0);
        more.hours(1);
        Due.is("like much again", more.roomIs(23, 7), 3);
        GrilleHotel zero = Due.hotel("c1(1=1);d10(1=1)", 0, 1, 4, 0);
        zero.hours(1);
        Due.is("of room 0 it is no nothing", zero.roomIs(4, 7), 0);
    }

    private static void feels() {
        Doc.says(11, "What a ROOM FEELS of another one (or of itself); NONE: no such ones.");
        GrilleHotel h = felt();
        Due.is("of another one", h.feels(23, 19), 3);
        Due.is("of itself", h.feels(23, 23), 0);
        Due.register(h, "23@19");
        Due.is("of itself", h.feels(19, 19), 3);
        Doc.bounds("feels(r, 0)", r -> h.feels(r, 0), 0, 23, -1);
        Doc.bounds("feels(0, of)", of -> h.feels(0, of), 0, 23, -1);
        Doc.bounds("feels(of, of)", of -> h.feels(of, of), 0, 23, -1);
    }

    private static void breakfast() {
        Doc.says(21, "what 100 the ROOM that FEELS most in all (of like ones the lowest; nobody FEELS: -2), else ROOMS (bits) that FEEL something of ROOM what; NONE: no such ones.");
        GrilleHotel h = felt();
        Due.is("most, the last room", h.breakfast(100), 23);
        Due.is("of 19", h.breakfast(19), Due.bits(23));
        Due.is("of 2", h.breakfast(2), Due.bits(22));
        Due.is("of 0", h.breakfast(0), 0);
        Doc.bounds("breakfast(what)", h::breakfast, 0, 23, -1);
        for (int what : new int[] {-1, 24, 99, 101}) {
            Due.is("breakfast(" + what + ")", h.breakfast(what), -1);
            Due.is("of nobody", new GrilleHotel().breakfast(what), -1);
        }
        Due.is("nobody feels", Due.hotel("", 4, 4).breakfast(100), -2);
        Due.is("nobody feels of 0", Due.hotel("", 4, 4).breakfast(0), 0);
        GrilleHotel two = Due.hotel("c3(1=1);d10(p=4)", 0, 6, 4, 0, 8, 0);
        two.hours(1);
        Due.law(two, "c3(1=1);d10(p=8)");
        two.hours(1);
        Due.is("like ones, the lowest", two.breakfast(100), 4);
        Due.is("two feel of 0", two.breakfast(0), Due.bits(4, 8));
        two.guest(0, 1);
        two.hours(1);
        Due.is("one more", two.breakfast(100), 8);
        Due.register(two, "8@0");
        Due.is("room 0", two.breakfast(100), 0);
        Due.is("feels of itself, too", two.breakfast(0), Due.bits(0, 4));
        GrilleHotel last = Due.hotel("c3(1=1);d10(f=5)", 19, 3, 16, 3, 20, 0, 23, 0);
        last.hours(1);
        Due.is("like ones, the lowest", last.breakfast(100), 20);
    }

    private static void dust() {
        Doc.says(26, "the ROOM with a GUEST that FEELS least in all (of like ones the lowest)");
        GrilleHotel h = felt();
        Due.is("of like ones the lowest", h.dust(0), 2);
        Due.register(h, "2!;3!;19!");
        Due.is("least", h.dust(0), 22);
        Due.register(h, "22!");
        Due.is("the last room alone", h.dust(0), 23);
        Doc.says(26, "what 0 the ROOM, 1 the median; -2: no GUESTS; NONE: no such what.");
        Due.is("one guest", h.dust(1), 6);
        Doc.bounds("dust(what)", h::dust, 0, 1, -1);
        Due.register(h, "23!");
        Due.is("no guests", h.dust(0), -2);
        Due.is("no guests", h.dust(1), -2);
        Doc.bounds("dust(what) without guests", h::dust, 0, 1, -1);
    }

    /** Rooms of floor 5 feel 1, 2, 3, 5 of the rooms below them; those without a guest are not asked. */
    private static void median() {
        Doc.says(26, "the median (of two the lower) of what ROOMS with GUESTS FEEL");
        GrilleHotel h = Due.hotel("c9(1=1);d10(1=1)", 16, 1, 17, 5, 18, 2, 19, 3, 20, 0, 21, 0, 22, 0, 23, 0);
        h.hours(1);
        Due.is("of 0 0 0 0 1 2 3 5", h.dust(1), 0);
        Due.register(h, "16!");
        Due.is("of 0 0 0 1 2 3 5", h.dust(1), 1);
        Due.register(h, "17!");
        Due.is("of 0 0 1 2 3 5, the lower", h.dust(1), 1);
        Due.register(h, "18!");
        Due.is("of 0 1 2 3 5", h.dust(1), 2);
        Due.register(h, "19!");
        Due.is("of 1 2 3 5, the lower", h.dust(1), 2);
        Due.register(h, "20!");
        Due.is("of 2 3 5", h.dust(1), 3);
        Due.register(h, "22!");
        Due.is("of 3 5, the lower", h.dust(1), 3);
        Due.register(h, "23!");
        Due.is("of 5", h.dust(1), 5);
        GrilleHotel last = Due.hotel("c9(1=1);d10(1=1)", 19, 4, 23, 0);
        last.hours(1);
        Due.is("of 0 4, the lower", last.dust(1), 0);
        Due.register(last, "19!");
        Due.is("of the last room", last.dust(1), 4);
    }

    /** Room 0 feels only what a guest brought there: 1 of room 1, felt in room 5. */
    private static void firstRooms() {
        GrilleHotel h = Due.hotel("c9(1=1);d10(p=5)", 1, 1, 5, 0, 9, 0);
        h.hours(1);
        Doc.says(26, "(of like ones the lowest); the median");
        Due.register(h, "5@0");
        Due.is("room 0 feels more than rooms 1 and 9", h.dust(0), 1);
        Due.is("of 0 0 1", h.dust(1), 0);
        Due.register(h, "1!");
        Due.is("room 0 feels more than room 9", h.dust(0), 9);
        Due.register(h, "9!");
        Due.is("room 0 alone", h.dust(0), 0);
        Due.is("room 0 alone", h.dust(1), 1);
        Doc.says(21, "else ROOMS (bits) that FEEL something of ROOM what");
        Due.is("1 is something", h.breakfast(1), Due.bits(0));
        Doc.says(10, "7 that ROOM (nothing: -2)");
        Due.is("most of room 1", h.roomIs(0, 7), 1);
        Due.is("most of room 1", h.roomIs(0, 6), 1);
        Doc.says(21, "the ROOM that FEELS most in all");
        Due.is("room 0", h.breakfast(100), 0);
        Due.register(h, "0@1");
        Due.is("room 1", h.breakfast(100), 1);
        Due.register(h, "1=5");
        Due.is("nobody", h.breakfast(100), -2);
        GrilleHotel one = Due.hotel("", 0, 7);
        Doc.says(26, "-2: no GUESTS");
        Due.is("one in room 0", one.dust(0), 0);
        Due.is("one in room 0", one.dust(1), 0);
        Due.register(one, "0!");
        Due.is("none", one.dust(0), -2);
        Due.is("none", one.dust(1), -2);
    }

    private static void keep() {
        Doc.says(28, "`int keep()`: KEPT: THE HOUR.");
        GrilleHotel h = new GrilleHotel();
        Due.is("at first", h.keep(), 0);
        h.hours(1);
        Due.is("behind one", h.keep(), 1);
        h.hours(240);
        Due.is("behind 241", h.keep(), 241);
        h.hours(1);
        h.undo();
        Due.is("behind undone", h.keep(), 241);
    }

    private static void undo() {
        Doc.says(29, "UNDONE: true; false: none was KEPT.");
        GrilleHotel h = Due.hotel("", 5, 7);
        Due.is("none was kept", h.undo(), false);
        Due.is("so nothing is changed", h.roomIs(5, 0), 7);
        h.keep();
        Due.is("kept", h.undo(), true);
        Due.is("and again", h.undo(), true);
        Doc.says(29, "UNDONE: as they were KEPT last");
        h.guest(5, 8);
        h.keep();
        h.guest(5, 9);
        h.undo();
        Due.is("as kept last", h.roomIs(5, 0), 8);
        h.guest(5, 10);
        h.undo();
        Due.is("as often as one likes", h.roomIs(5, 0), 8);
    }

    private static void kept() {
        Doc.says(29, "KEPT: GUESTS, SINS, GRILLES, LOUVRES, FEELS, GREASE, THE COWL, THE HOUR, X");
        GrilleHotel h = changedBehind(new GrilleHotel());
        State.same("kept new and undone", h, undoneAsNew());
        GrilleHotel busy = busy();
        changedBehind(busy);
        GrilleHotel as = busy();
        as.keep();
        Due.law(as, "c9(1=1)");
        State.same("kept busy and undone", busy, as);
        GrilleHotel l = busy();
        l.keep();
        Due.law(l, "c1(1=1);x(1=1);x(1=1)");
        Due.feed(l, "abc");
        l.undo();
        Due.is("the law is not kept", l.count(4), 3);
        Due.is("the tape is not kept", l.count(5), 20);
    }

    private static GrilleHotel undoneAsNew() {
        GrilleHotel h = new GrilleHotel();
        h.keep();
        Due.law(h, "c9(1=1)");
        return h;
    }

    /** Every room is otherwise than a new one is, the first and the last ones among them. */
    private static GrilleHotel busy() {
        GrilleHotel h = Due.hotel("c9(1=1);k1(f>3);d5(1=1)");
        for (int r = 0; r < 24; r++) {
            if (r % 5 != 1) {
                h.guest(r, 20 + r);
            }
            h.louvre(r, (r + 2) % 3);
            h.grille(r, r % 4 != 2);
        }
        h.hours(3);
        return h;
    }

    /** Keeps, changes all that is kept, and undoes; the law stays changed. */
    private static GrilleHotel changedBehind(GrilleHotel h) {
        h.keep();
        Due.law(h, "c9(1=1);k2(1=1);d7(1=1)");
        for (int r : new int[] {0, 1, 6, 12, 17, 22, 23}) {
            h.guest(r, 500);
            h.louvre(r, r % 3);
            h.grille(r, r % 4 == 2);
        }
        h.hours(9);
        h.seed(4242);
        Due.law(h, "c9(1=1)");
        Due.is("undo", h.undo(), true);
        return h;
    }

    private static void count() {
        Doc.says(31, "0 THE HOUR, 1 THE COWL, 2 ROOMS with GUESTS (bits), 3 open GRILLES (bits), 4 RULES, 5 bytes of the tape, 6 X, 7 SINS of all, 8 GREASE of all. NONE for others.");
        GrilleHotel h = felt();
        h.grille(0, false);
        h.grille(23, false);
        h.feed(0, 0, 0, 0, 0);
        h.seed(4242);
        int[] dues = {1, 0, Due.bits(2, 3, 19, 22, 23), 0xFFFFFF - Due.bits(0, 23), 3, 20, 4242, 11, 1};
        for (int what = 0; what <= 8; what++) {
            Due.is("count(" + what + ")", h.count(what), dues[what]);
        }
        Doc.bounds("count(what)", h::count, 0, 8, -1);
        h.check(0);
        Due.register(h, "3!");
        Due.is("without those of one who left", h.count(7), 6);
        GrilleHotel all = Due.hotel("c1(1=1)");
        for (int r = 0; r < 24; r++) {
            all.guest(r, 9999);
        }
        Due.is("all are there", all.count(2), 0xFFFFFF);
        Due.is("most sins", all.count(7), 24 * 9999);
        all.hours(2);
        Due.is("the cowl", all.count(1), 48);
    }
}
