/** The edges of a register: how long it may be, what can stand where, its faults, and which of two comes first. */
final class RegisterEdges {
    private static final String DIGITS = "0123456789";

    private RegisterEdges() {
    }

    static void all() {
        bytes();
        blanks();
        whatCanStand();
        theEnd();
        rooms();
        sins();
        lines();
        signs();
        changes();
        thirdDigit();
        aboveRooms();
        tooManyLines();
        noGuest();
        theFirstFromTheLeft();
        nothingIsDone();
    }

    /** What a register answers in a hotel whose only guest is in room 5. */
    private static int answer(String text) {
        return Due.register(Due.hotel("", 5, 7), text);
    }

    private static void due(String text, int due) {
        Due.is(text, answer(text), due);
    }

    private static void bytes() {
        Doc.says(7, "A REGISTER: a TEXT of at most 120 bytes, no blanks");
        Doc.says(7, "A REGISTER by the first n bytes of the tape (1 to 120; empty then): how many LINES; a FAULT; NONE: as above.");
        String full = "10=1234;".repeat(14) + "10=12;1s";
        Due.is("the longest has 120", full.length(), 120);
        Due.is("one below", answer(full.substring(0, 111)), 14);
        Due.is("119", answer(full.substring(0, 119)), -1119);
        Due.is("120", answer(full), 16);
        Due.is("121", answer(full + "s"), -1);
        Due.is("one, and that the least", answer("s"), -1000);
        GrilleHotel h = new GrilleHotel();
        Doc.bounds("register(n)", n -> {
            h.check(0);
            Due.feed(h, "5s;".repeat(48));
            return h.register(n);
        }, 1, 120, -1);
        h.check(0);
        Due.feed(h, "5s;5s;5s;5s;5s;5s;05");
        Due.is("one more than it has", h.register(21), -1);
        Due.is("the tape stays", h.count(5), 20);
        Due.is("as many as it has", h.register(20), -1020);
        Due.is("empty then", h.count(5), 0);
        Due.is("has none", h.register(1), -1);
        Due.feed(h, "5s;5s;5s;5s;5s;5s;05s;05o");
        Due.is("the first n alone", h.register(5), 2);
        Due.is("those behind are gone, too", h.count(5), 0);
        Due.is("and were not read", h.roomIs(5, 2), 0);
    }

    private static void blanks() {
        Doc.says(7, "A REGISTER: a TEXT of at most 120 bytes, no blanks");
        String[] texts = {" 5s", "5 s", "5s ", "5s ;6s", "5s; 6s", "5= 7", "5=7 ", "5=7 7", "5@ 6", "5@6 ", "5@1 2", "1 2s"};
        int[] dues = {-1000, -1001, -1002, -1002, -1003, -1002, -1003, -1003, -1002, -1003, -1003, -1001};
        for (int i = 0; i < texts.length; i++) {
            due(texts[i], dues[i]);
        }
    }

    /** Every byte behind such a beginning: what can stand there goes on to the due answer, all else is a fault there. */
    private static void behind(String start, String fine, int due) {
        for (int sign = 0; sign < 256; sign++) {
            String text = start + (char) sign;
            boolean isFine = fine.indexOf(sign) >= 0;
            Due.is(start + " and the byte " + sign, answer(text), isFine ? due : -1000 - start.length());
        }
    }

    private static void whatCanStand() {
        Doc.says(7, "FAULTS, the first from the left: 1 what can't stand there (the end, too); 2 a third digit of a ROOM");
        behind("", DIGITS, -1001);
        behind("5s", ";", -1003);
        behind("5o", ";", -1003);
        behind("5<", ";", -1003);
        behind("5|", ";", -1003);
        behind("5>", ";", -1003);
        behind("5!", ";", -1003);
        behind("5s;", DIGITS, -1004);
        behind("5=", DIGITS, 1);
        behind("5@", DIGITS, 1);
        for (int sign = 0; sign < 256; sign++) {
            String at = " and the byte " + sign;
            boolean isDigit = DIGITS.indexOf(sign) >= 0;
            int room = isDigit ? -3000 : "o!s<|>".indexOf(sign) >= 0 ? 1 : "=@".indexOf(sign) >= 0 ? -1002 : -1001;
            Due.is("5" + at, answer("5" + (char) sign), room);
            int roomOfTwo = isDigit ? -2002 : sign == '!' ? -7002 : "os<|>".indexOf(sign) >= 0 ? 1
                : "=@".indexOf(sign) >= 0 ? -1003 : -1002;
            Due.is("23" + at, answer("23" + (char) sign), roomOfTwo);
            int sins = isDigit ? 1 : sign == ';' ? -1004 : -1003;
            Due.is("5=7" + at, answer("5=7" + (char) sign), sins);
            Due.is("5=1234" + at, answer("5=1234" + (char) sign), isDigit ? -2006 : sign == ';' ? -1007 : -1006);
            int other = isDigit ? sign <= '3' ? 1 : -3002 : sign == ';' ? -1004 : -1003;
            Due.is("5@2" + at, answer("5@2" + (char) sign), other);
            Due.is("5@23" + at, answer("5@23" + (char) sign), isDigit ? -2004 : sign == ';' ? -1005 : -1004);
        }
    }

    private static void theEnd() {
        Doc.says(7, "1 what can't stand there (the end, too)");
        String[] texts = {"5", "05", "5=", "5@", "5s;", "5s;6", "5=1;", "5@6;", "5!;"};
        for (String text : texts) {
            due(text, -1000 - text.length());
        }
        due("5s", 1);
        due("5=1", 1);
        due("5@6", 1);
        due("5!", 1);
    }

    private static void rooms() {
        Doc.says(7, "a number (ROOM, one or two digits)");
        String[] texts = {"0s", "00s", "9s", "09s", "10s", "19s", "20s", "23s"};
        int[] rooms = {0, 0, 9, 9, 10, 19, 20, 23};
        for (int i = 0; i < texts.length; i++) {
            GrilleHotel h = new GrilleHotel();
            Due.is(texts[i], Due.register(h, texts[i]), 1);
            Due.is(texts[i] + ": shut", h.count(3), 0xFFFFFF - Due.bits(rooms[i]));
        }
        Doc.says(7, "or @ and a number of one or two digits");
        String[] others = {"5@0", "5@00", "5@9", "5@09", "5@10", "5@23"};
        int[] to = {0, 0, 9, 9, 10, 23};
        for (int i = 0; i < others.length; i++) {
            GrilleHotel h = Due.hotel("", 5, 7);
            Due.is(others[i], Due.register(h, others[i]), 1);
            Due.is(others[i] + ": there", h.count(2), Due.bits(to[i]));
        }
    }

    private static void sins() {
        Doc.says(7, "then = and a number of one to four digits (a GUEST with so many SINS, in place of one before; the ROOM FEELS nothing any more)");
        String[] texts = {"6=0", "6=9", "6=00", "6=10", "6=999", "6=0000", "6=0009", "6=1000", "6=9999", "5=3"};
        int[] sins = {0, 9, 0, 10, 999, 0, 9, 1000, 9999, 3};
        for (int i = 0; i < texts.length; i++) {
            GrilleHotel h = Due.hotel("", 5, 7);
            Due.is(texts[i], Due.register(h, texts[i]), 1);
            Due.is(texts[i] + ": sins", h.roomIs(texts[i].charAt(0) - '0', 0), sins[i]);
        }
        due("6=", -1002);
        GrilleHotel h = felt();
        Due.register(h, "8=50");
        Due.is("the sins are the new one's", h.roomIs(8, 0), 50);
        Due.is("feels nothing", h.roomIs(8, 5), 0);
        Due.is("of any", h.feels(8, 4), 0);
        Due.is("another one's is felt still", h.feels(4, 0), 5);
    }

    /** Room 4 feels 5 of room 0, room 8 feels 5 of room 4, room 23 feels 2 of room 19. */
    private static GrilleHotel felt() {
        GrilleHotel h = Due.hotel("c5(1=1);d10(1=1)", 0, 50, 4, 40, 8, 0, 19, 2, 23, 0);
        h.hours(1);
        return h;
    }

    private static void lines() {
        Doc.says(7, "LINES with a ; (59) between two (20 at most)");
        for (int n : new int[] {1, 2, 19, 20}) {
            due("5s" + ";5s".repeat(n - 1), n);
        }
        due("5s" + ";5s".repeat(20), -4060);
        due("5s:5s", -1002);
        due("5s<5s", -1002);
        due("5s5s", -1002);
        due("5s;;5s", -1003);
        due(";5s", -1000);
    }

    private static void signs() {
        Doc.says(7, "or ! (the GUEST leaves; it FEELS nothing any more)");
        GrilleHotel h = felt();
        Due.is("4!", Due.register(h, "4!"), 1);
        Due.is("left", h.roomIs(4, 0), -2);
        Due.is("no sins of it", h.count(7), 45);
        Due.is("feels nothing", h.roomIs(4, 5), 0);
        Due.is("of any", h.feels(4, 0), 0);
        Due.is("23!", Due.register(h, "23!"), 1);
        Due.is("feels nothing", h.feels(23, 19), 0);
        Due.is("what came out of it is felt still", h.feels(8, 4), 5);
        GrilleHotel shut = Due.hotel("", 7, 5);
        Due.is("7!", Due.register(shut, "7s;7<;7!"), 3);
        Due.is("its grille stays as it is", shut.roomIs(7, 2), 0);
        Due.is("its louvre stays as it is", shut.roomIs(7, 3), 0);
        Due.is("another one comes", Due.register(shut, "7=6"), 1);
        Due.is("its grille stays as it is", shut.roomIs(7, 2), 0);
        Due.is("its louvre stays as it is", shut.roomIs(7, 3), 0);
        shut.guest(7, 8);
        Due.is("its grille stays as it is", shut.roomIs(7, 2), 0);
        Due.is("its louvre stays as it is", shut.roomIs(7, 3), 0);
        Doc.says(7, "or o (open), s (shut), or < (60), | (124), > (62) (LOUVRE left, straight, right)");
        String[] texts = {"7o", "7s", "7<", "7|", "7>"};
        int[] open = {1, 0, 1, 1, 1};
        int[] set = {1, 1, 0, 1, 2};
        for (int i = 0; i < texts.length; i++) {
            GrilleHotel one = new GrilleHotel();
            Due.is(texts[i], Due.register(one, texts[i]), 1);
            Due.is(texts[i] + ": open", one.roomIs(7, 2), open[i]);
            Due.is(texts[i] + ": louvre", one.roomIs(7, 3), set[i]);
        }
        GrilleHotel back = new GrilleHotel();
        Due.is("shut and open", Due.register(back, "7s;7o"), 2);
        Due.is("open", back.roomIs(7, 2), 1);
        Due.is("right and straight", Due.register(back, "7>;7|"), 2);
        Due.is("straight", back.roomIs(7, 3), 1);
    }

    private static void changes() {
        Doc.says(7, "the two GUESTS change ROOMS, SINS and what they FEEL with them; one of both may be without");
        GrilleHotel h = felt();
        Due.is("both", Due.register(h, "4@23"), 1);
        Due.is("sins", h.roomIs(23, 0), 35);
        Due.is("sins", h.roomIs(4, 0), 0);
        Due.is("feels", h.feels(23, 0), 5);
        Due.is("feels", h.feels(4, 19), 2);
        Due.is("in all", h.roomIs(23, 5), 5);
        Due.is("in all", h.roomIs(4, 5), 2);
        Due.is("the first is without", Due.register(h, "1@23"), 1);
        Due.is("there", h.feels(1, 0), 5);
        Due.is("none", h.roomIs(23, 0), -2);
        Due.is("nothing", h.roomIs(23, 5), 0);
        Due.is("the second is without", Due.register(h, "1@2"), 1);
        Due.is("there", h.feels(2, 0), 5);
        Due.is("none", h.roomIs(1, 0), -2);
        Due.is("with itself", Due.register(h, "2@2"), 1);
        Due.is("as before", h.feels(2, 0), 5);
        Due.is("as before", h.roomIs(2, 0), 35);
        ofTheLastRoom();
    }

    private static void ofTheLastRoom() {
        GrilleHotel h = Due.hotel("c5(1=1);d10(1=1)", 19, 9, 23, 0);
        h.hours(1);
        Due.is("23@0", Due.register(h, "23@0"), 1);
        Due.is("of 19 in 0", h.feels(0, 19), 5);
        Due.is("0@23", Due.register(h, "0@23"), 1);
        Due.is("of 19 in 23", h.feels(23, 19), 5);
        Due.is("grilles and louvres stay", Due.register(h, "23s;23<;23@1"), 3);
        Due.is("shut", h.roomIs(23, 2), 0);
        Due.is("left", h.roomIs(23, 3), 0);
        Due.is("open", h.roomIs(1, 2), 1);
        Due.is("straight", h.roomIs(1, 3), 1);
    }

    private static void thirdDigit() {
        Doc.says(7, "2 a third digit of a ROOM, a fifth of SINS, at it");
        String[] texts = {"000", "000s", "005s", "230s", "5@000", "5@023", "5s;000", "5s;5@000", "5=00000", "5=99999",
            "05=00000", "5=0000;6=00000", "5=000000"};
        int[] dues = {-2002, -2002, -2002, -2002, -2004, -2004, -2005, -2007, -2006, -2006, -2007, -2013, -2006};
        for (int i = 0; i < texts.length; i++) {
            due(texts[i], dues[i]);
        }
        due("00s", 1);
        due("5@00", 1);
        due("5=0000", 1);
    }

    private static void aboveRooms() {
        Doc.says(7, "3 a ROOM above 23, at its first digit (asked when it ends)");
        due("23s", 1);
        due("24s", -3000);
        due("99s", -3000);
        due("5@23", 1);
        due("5@24", -3002);
        due("5@99", -3002);
        due("5s;24s", -3003);
        due("5s;5@24", -3005);
        Due.is("it ends with the text", answer("24"), -3000);
        Due.is("it ends with what can't stand there", answer("24x"), -3000);
        Due.is("the other one ends with what can't stand there", answer("5@24x"), -3002);
        Due.is("it has not ended at a third digit", answer("240"), -2002);
        Due.is("nor has the other one", answer("5@240"), -2004);
        Due.is("2 alone is a ROOM", answer("2s"), 1);
    }

    private static void tooManyLines() {
        Doc.says(7, "4 a 21st LINE, at its first digit (if that can stand there)");
        String twenty = "5s" + ";5s".repeat(19);
        for (int sign = 0; sign < 256; sign++) {
            int due = DIGITS.indexOf(sign) >= 0 ? -4060 : -1060;
            Due.is("a 21st by the byte " + sign, answer(twenty + ";" + (char) sign), due);
        }
        due(twenty, 20);
        due(twenty + ";", -1060);
        due(twenty + ";24s", -4060);
        due(twenty + ";000", -4060);
        due(twenty + "x;5s", -1059);
        Due.is("a fault in the 20th is ahead of it", answer("5s" + ";5s".repeat(18) + ";24s;5s"), -3057);
    }

    private static void noGuest() {
        Doc.says(7, "7 no GUEST there (!, @: in none of both), at that sign");
        due("6!", -7001);
        due("06!", -7002);
        due("5!", 1);
        due("6@7", -7001);
        due("06@07", -7002);
        due("6@6", -7001);
        due("5@6", 1);
        due("6@5", 1);
        due("5@5", 1);
        Doc.says(7, "(by LINES ahead, too; of @ when its number ends)");
        due("5!;5!", -7004);
        due("5!;5@6", -7004);
        due("5@6;5!", -7005);
        due("5@6;6!", 2);
        due("6=1;6!", 2);
        due("6=1;6@7;7!;7!", -7012);
        Due.is("the number goes on", answer("6@1"), -7001);
        Due.is("to one that has a guest", Due.register(Due.hotel("", 10, 1), "6@10"), 1);
        Due.is("a third digit comes ahead of it", answer("6@000"), -2004);
        Due.is("a ROOM above 23 comes ahead of it", answer("6@24"), -3002);
        Due.is("no number comes ahead of it", answer("6@"), -1002);
        Due.is("what can't stand behind its number does not", answer("6@7x"), -7001);
        Due.is("nor what can't stand behind !", answer("6!x"), -7001);
    }

    private static void theFirstFromTheLeft() {
        Doc.says(7, "FAULTS, the first from the left");
        due("24s;x", -3000);
        due("x;24s", -1000);
        due("5=00000;24s", -2006);
        due("24s;5=00000", -3000);
        due("6!;24s", -7001);
        due("24s;6!", -3000);
        due("5s;6!;x", -7004);
        due("5s;x;6!", -1003);
    }

    private static void nothingIsDone() {
        Doc.says(7, "Nothing is done by a REGISTER with a FAULT.");
        String[] ends = {"x", "", "5=00000", "000", "24s", "1!", "1@2", "4@1;4!"};
        for (String end : ends) {
            GrilleHotel h = felt();
            h.keep();
            String text = "0=7;4!;8s;8<;8@9;23@3;1=1;1!;" + end;
            Due.is(text + " has a fault", Due.register(h, text) < -999, true);
            GrilleHotel as = felt();
            as.keep();
            State.same(text, h, as);
        }
        GrilleHotel many = felt();
        many.keep();
        Due.is("a 21st", Due.register(many, "8s" + ";8s".repeat(20)), -4060);
        GrilleHotel as = felt();
        as.keep();
        State.same("a 21st", many, as);
    }
}
