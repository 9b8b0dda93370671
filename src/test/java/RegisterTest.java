/** Promise 7: registers as texts, their faults, and what their lines do. */
public final class RegisterTest {
    public static void main(String[] args) {
        lines();
        changes();
        faults();
        noGuest();
        tooMany();
        nothingIsDone();
        refused();
        Due.end("RegisterTest");
    }

    private static void lines() {
        GrilleHotel h = new GrilleHotel();
        Due.is("7: =", Due.register(h, "3=9999"), 1);
        Due.is("7: sins", h.roomIs(3, 0), 9999);
        Due.is("7: two digits", Due.register(h, "03=0007;23=0"), 2);
        Due.is("7: sins", h.roomIs(3, 0), 7);
        Due.is("7: sins", h.roomIs(23, 0), 0);
        Due.is("7: s < ;", Due.register(h, "3s;3<;4>"), 3);
        Due.is("7: shut", h.roomIs(3, 2), 0);
        Due.is("7: left", h.roomIs(3, 3), 0);
        Due.is("7: right", h.roomIs(4, 3), 2);
        Due.is("7: o |", Due.register(h, "3o;3|;04|"), 3);
        Due.is("7: open", h.roomIs(3, 2), 1);
        Due.is("7: straight", h.roomIs(3, 3), 1);
        Due.is("7: straight", h.roomIs(4, 3), 1);
        Due.is("7: !", Due.register(h, "3!"), 1);
        Due.is("7: gone", h.roomIs(3, 0), -2);
        Due.is("7: count(2)", h.count(2), Due.bits(23));
        Due.is("7: empty then", h.count(5), 0);
        Due.is("7: grilles and louvres of no guest", Due.register(h, "0s;0>"), 2);
        Due.is("7: in place", Due.register(h, "23=5;23=6"), 2);
        Due.is("7: in place", h.roomIs(23, 0), 6);
        Due.is("7: there and gone", Due.register(h, "8=5;8!"), 2);
        Due.is("7: gone", h.roomIs(8, 1), 0);
    }

    /** Room 4 feels 5 of room 0, room 8 feels 5 of room 4. */
    private static GrilleHotel felt() {
        GrilleHotel h = new GrilleHotel();
        h.guest(0, 50);
        h.guest(4, 40);
        h.guest(8, 0);
        Due.law(h, "c5(1=1);d10(1=1)");
        h.hours(1);
        return h;
    }

    private static void changes() {
        GrilleHotel h = felt();
        Due.is("7: @", Due.register(h, "4@8"), 1);
        Due.is("7: sins go along", h.roomIs(8, 0), 35);
        Due.is("7: sins go along", h.roomIs(4, 0), 0);
        Due.is("7: feelings go along", h.feels(8, 0), 5);
        Due.is("7: feelings go along", h.feels(4, 4), 5);
        Due.is("7: and are gone there", h.feels(8, 4), 0);
        Due.is("7: all", h.roomIs(8, 5), 5);
        Due.register(h, "8s;8<");
        Due.is("7: @ with one without", Due.register(h, "8@13"), 1);
        Due.is("7: none there", h.roomIs(8, 0), -2);
        Due.is("7: there", h.roomIs(13, 0), 35);
        Due.is("7: feels there", h.feels(13, 0), 5);
        Due.is("7: feels nothing here", h.roomIs(8, 5), 0);
        Due.is("7: grilles stay", h.roomIs(8, 2), 0);
        Due.is("7: grilles stay", h.roomIs(13, 2), 1);
        Due.is("7: louvres stay", h.roomIs(8, 3), 0);
        Due.is("7: louvres stay", h.roomIs(13, 3), 1);
        Due.is("7: the other one without", Due.register(h, "8@13"), 1);
        Due.is("7: back", h.feels(8, 0), 5);
        Due.is("7: with itself", Due.register(h, "8@08"), 1);
        Due.is("7: as before", h.feels(8, 0), 5);
        Due.is("7: in place", Due.register(h, "8=9"), 1);
        Due.is("7: feels nothing any more", h.roomIs(8, 5), 0);
        Due.is("7: leaves", Due.register(h, "4!"), 1);
        Due.is("7: feels nothing any more", h.roomIs(4, 5), 0);
        h.guest(4, 1);
        Due.is("7: nor who comes then", h.roomIs(4, 5), 0);
    }

    private static void faults() {
        GrilleHotel h = new GrilleHotel();
        h.guest(5, 1);
        String[] texts = {"x", ";", "=", "5", "5;", "5x", "05", "055", "055=", "240=1", "24", "24=1", "99!", "24x", "5=", "5=x",
            "5=;", "5=1x", "5=12345", "5=123456", "5=0", "5@", "5@x", "5@24", "5@240", "5@99", "5@6x", "5@055", "5o ", "5oo",
            "5o;", "5o;x", "5!x", "5o5", "5o,5s", " 5o", "5 o", "5=-1", "5S", "5o;24o", "5o;5=12345", "24@5"};
        int[] dues = {-1000, -1000, -1000, -1001, -1001, -1001, -1002, -2002, -2002, -2002, -3000, -3000, -3000, -3000, -1002,
            -1002, -1002, -1003, -2006, -2006, 1, -1002, -1002, -3002, -2004, -3002, -1003, -2004, -1002, -1002,
            -1003, -1003, -1002, -1002, -1002, -1000, -1001, -1002, -1001, -3003, -2009, -3000};
        for (int i = 0; i < texts.length; i++) {
            Due.is("7: " + texts[i], Due.register(h, texts[i]), dues[i]);
            Due.is("7: empty then", h.count(5), 0);
        }
        Due.is("7: a byte above 127", Due.register(h, Due.bytes('5', 200)), -1001);
        Due.is("7: a byte 0", Due.register(h, Due.bytes('5', '=', '1', 0)), -1003);
    }

    private static void noGuest() {
        GrilleHotel h = new GrilleHotel();
        h.guest(5, 1);
        String[] texts = {"6!", "06!", "6!x", "6@7", "6@7x", "6@077", "6@24", "6@", "6@6", "5!;5!", "5!;5@6", "5@6;5!", "5@6;6@7;6!",
            "6=1;6!;6!", "5s;06@07", "5@6;6!;5@6"};
        int[] dues = {-7001, -7002, -7001, -7001, -7001, -2004, -3002, -1002, -7001, -7004, -7004, -7005, -7009,
            -7008, -7005, -7008};
        for (int i = 0; i < texts.length; i++) {
            Due.is("7: " + texts[i], Due.register(h, texts[i]), dues[i]);
            Due.is("7: nothing is done", h.count(2), Due.bits(5));
            Due.is("7: nothing is done", h.count(3), 0xFFFFFF);
        }
        Due.is("7: by lines ahead", Due.register(h, "6=1;6!;5@6;6!"), 4);
        Due.is("7: all gone", h.count(2), 0);
    }

    private static void tooMany() {
        GrilleHotel h = new GrilleHotel();
        String twenty = "1s;".repeat(19) + "1o";
        Due.is("7: twenty", Due.register(h, twenty), 20);
        Due.is("7: the last counts", h.roomIs(1, 2), 1);
        Due.is("7: a 21st", Due.register(h, twenty + ";1s"), -4060);
        Due.is("7: a 21st by any digit", Due.register(h, twenty + ";9"), -4060);
        Due.is("7: a 21st that can't stand", Due.register(h, twenty + ";s"), -1060);
        Due.is("7: none behind ;", Due.register(h, twenty + ";"), -1060);
        Due.is("7: no ;", Due.register(h, twenty + "1"), -1059);
        Due.is("7: still open", h.roomIs(1, 2), 1);
    }

    private static void nothingIsDone() {
        GrilleHotel h = felt();
        int[] before = new int[9];
        for (int what = 0; what < 9; what++) {
            before[what] = h.count(what);
        }
        Due.is("7: a fault at the end", Due.register(h, "0=7;4!;8s;8<;8@9;1=1;0@8;x"), -1025);
        for (int what = 0; what < 9; what++) {
            Due.is("7: count(" + what + ")", h.count(what), before[what]);
        }
        Due.is("7: louvre", h.roomIs(8, 3), 1);
        Due.is("7: feels", h.feels(4, 0), 5);
        Due.is("7: feels", h.feels(8, 4), 5);
    }

    private static void refused() {
        GrilleHotel h = new GrilleHotel();
        Due.is("7: has none", h.register(1), -1);
        Due.feed(h, "5=1" + " ".repeat(137));
        Due.is("7: n 0", h.register(0), -1);
        Due.is("7: n -1", h.register(-1), -1);
        Due.is("7: n 121", h.register(121), -1);
        Due.is("7: the tape stays", h.count(5), 140);
        Due.is("7: n 3", h.register(3), 1);
        Due.is("7: empty then", h.count(5), 0);
        Due.feed(h, "5=1");
        Due.is("7: n 21 of 20", h.register(21), -1);
        h.check(0);
        String full = "10=1234;".repeat(14) + "10=12;1s";
        Due.is("7: 120 bytes", Due.register(h, full), 16);
    }
}
