/** The edges of what is told by the tape: feeding, sleep, taps, linen, check. */
final class TapeEdges {
    private TapeEdges() {
    }

    static void all() {
        feed();
        sleep();
        sleepArguments();
        taps();
        tapLetters();
        tapFaults();
        tapsArguments();
        tapped();
        linen();
        linenOnce();
        linenArguments();
        check();
        checkArguments();
    }

    private static void feed() {
        Doc.says(5, "Twenty bytes come behind the tape, the highest of each int first: how many it has; NONE if that would be more than 260.");
        GrilleHotel h = new GrilleHotel();
        for (int n = 20; n <= 260; n += 20) {
            Due.is("up to " + n, h.feed(n, n, n, n, n), n);
        }
        Due.is("more than 260", h.feed(1, 2, 3, 4, 5), -1);
        Due.is("the tape stays", h.count(5), 260);
        Due.is("again", h.feed(1, 2, 3, 4, 5), -1);
        Due.is("the tape stays", h.count(5), 260);
        for (int r = 0; r < 24; r++) {
            h.guest(r, r < 20 ? r % 4 == 3 ? 20 : 0 : r == 23 ? 40 : 0);
        }
        Due.is("as it was fed", h.check(24), -1);
        Due.is("there is room again", h.feed(0x80FF7F01, -1, 0, Integer.MIN_VALUE, Integer.MAX_VALUE), 20);
        int[] bytes = {0x80, 255, 0x7F, 1, 255, 255, 255, 255, 0, 0, 0, 0, 0x80, 0, 0, 0, 0x7F, 255, 255, 255};
        for (int r = 0; r < 20; r++) {
            h.guest(r, bytes[r]);
        }
        Due.is("the highest of each int first", h.check(20), -1);
    }

    /** Room 4 feels 1, room 5 feels 2, room 6 feels 3, room 23 feels 1. */
    private static GrilleHotel felt() {
        GrilleHotel h = Due.hotel("c9(1=1);d10(1=1)", 0, 1, 1, 2, 2, 3, 19, 1, 4, 0, 5, 0, 6, 0, 23, 0);
        h.hours(1);
        return h;
    }

    private static void sleepers(GrilleHotel h, int rooms, int[] minds, long least, int... row) {
        Due.is("in all", Due.sleep(h, rooms, 100, minds), least);
        for (int place = 0; place < row.length; place++) {
            Due.is("at place " + place, Due.sleep(h, rooms, place, minds), row[place]);
        }
    }

    private static void sleep() {
        Doc.says(20, "SLEEP: 1 to 6 GUESTS who mind so much (0 to 255 each) are put into as many ROOMS (bits, the lowest first)");
        GrilleHotel h = felt();
        sleepers(h, Due.bits(5), new int[] {255}, 510, 0);
        sleepers(h, Due.bits(5), new int[] {0}, 0, 0);
        sleepers(h, Due.bits(4, 5, 6), new int[] {255, 0, 255}, 255 + 255 * 2, 0, 2, 1);
        sleepers(h, Due.bits(0, 1, 4, 5, 6, 23), new int[] {6, 5, 4, 3, 2, 1}, 3 + 2 * 2 + 4 + 3, 0, 1, 2, 4, 5, 3);
        Doc.says(20, "each minds by what the ROOM FEELS in all (times): so that least is minded in all");
        sleepers(h, Due.bits(4, 5, 6), new int[] {1, 2, 3}, 3 + 4 + 3, 2, 1, 0);
        sleepers(h, Due.bits(6, 23), new int[] {9, 8}, 8 * 3 + 9, 1, 0);
        sleepers(h, Due.bits(0, 23), new int[] {8, 9}, 8, 1, 0);
        Doc.says(20, "of like ones the least row (by ROOMS: whom)");
        sleepers(h, Due.bits(4, 23), new int[] {7, 9}, 16, 0, 1);
        sleepers(h, Due.bits(4, 5, 6), new int[] {7, 7, 7}, 42, 0, 1, 2);
        sleepers(h, Due.bits(4, 5, 23), new int[] {5, 5, 1}, 5 + 2 + 5, 0, 2, 1);
        sleepers(h, Due.bits(7, 8, 9, 10), new int[] {1, 255, 0, 3}, 0, 0, 1, 2, 3);
    }

    private static void sleepArguments() {
        Doc.says(20, "SLEEP by the first n bytes of the tape (how GUESTS mind; n 1 to 6; empty then) in n ROOMS (bits), what 100 how much in all, else which GUEST is in the ROOM at place what (0 to n - 1); NONE: no such ones, it has not so many (the tape stays).");
        GrilleHotel h = felt();
        Doc.bounds("sleep(n, n rooms, 100)", n -> {
            h.check(0);
            Due.feed(h, "abc");
            return h.sleep(n, n > 0 && n < 24 ? (1 << n) - 1 : 0, 100);
        }, 1, 6, -1);
        for (int n : new int[] {1, 3, 6}) {
            Doc.bounds("sleep(" + n + ", .., what)", what -> {
                h.check(0);
                Due.feed(h, "abc");
                return h.sleep(n, (1 << n) - 1, what);
            }, 0, n - 1, -1);
        }
        h.check(0);
        Due.feed(h, Due.bytes(1, 2, 3, 4));
        int[][] wrong = {{2, 1, 100}, {2, 7, 100}, {2, 0, 100}, {2, -1, 100}, {2, 1 << 24 | 1, 100}, {2, 1 << 31 | 1, 100},
            {1, 1 << 24, 100}, {1, Integer.MIN_VALUE, 100}, {2, 3, 2}, {2, 3, 99}, {2, 3, 101}, {0, 0, 100}, {7, 127, 100}};
        for (int[] row : wrong) {
            Due.is("sleep(" + row[0] + ", " + row[1] + ", " + row[2] + ")", h.sleep(row[0], row[1], row[2]), -1);
            Due.is("the tape stays", h.count(5), 20);
        }
        Due.is("the last rooms", h.sleep(2, Due.bits(0, 23), 100), 1);
        Due.is("empty then", h.count(5), 0);
        Due.is("it has not so many", h.sleep(2, 3, 100), -1);
        Due.is("not one", h.sleep(1, 1, 0), -1);
        Due.feed(h, Due.bytes(1, 2, 3, 4));
        Due.is("which guest", h.sleep(2, 3, 1), 1);
        Due.is("empty then", h.count(5), 0);
    }

    private static void taps() {
        Doc.says(23, "x (a tap) and a dot (46, a pause): LETTERS with two dots between them: each a row, a dot, a column, of 1 to 5 taps each");
        GrilleHotel h = new GrilleHotel();
        Due.is("the fewest taps", Due.taps(h, "x.x", 0), 0);
        Due.is("the most taps", Due.taps(h, "xxxxx.xxxxx", 0), 25);
        Due.is("two", Due.taps(h, "xxxxx.x..x.xxxxx", 100), 2);
        Due.is("two", Due.taps(h, "xxxxx.x..x.xxxxx", 0), 'V' - 'A');
        Due.is("two", Due.taps(h, "xxxxx.x..x.xxxxx", 1), 'E' - 'A');
        Doc.says(23, "TAPS: a TEXT of at most 60 bytes");
        String twelve = "x.x" + "..x.x".repeat(11);
        Due.is("58", Due.taps(h, twelve, 100), 12);
        Due.is("59", Due.taps(h, twelve + "x", 100), 12);
        Due.is("60", Due.taps(h, twelve + "xx", 100), 12);
        Due.is("60, the last", Due.taps(h, twelve + "xx", 11), 2);
        Due.is("61", Due.taps(h, twelve + "xxx", 100), -1);
        Due.is("the tape stays", h.count(5), 80);
        Doc.says(23, "how many LETTERS; the LETTER at a place (0 for A, 25 for Z)");
        Due.is("still there", h.taps(58, 11), 0);
    }

    private static void tapLetters() {
        Doc.says(23, "A to Z but K in rows of five (C for K)");
        String square = "ABCDEFGHIJLMNOPQRSTUVWXYZ";
        for (int i = 0; i < 25; i++) {
            GrilleHotel h = new GrilleHotel();
            String text = "x".repeat(i / 5 + 1) + "." + "x".repeat(i % 5 + 1);
            Due.is(text, Due.taps(h, text, 0), square.charAt(i) - 'A');
        }
    }

    /** Every byte behind such a beginning, as what a text of taps answers. */
    private static void behind(String start, int ofTap, int ofDot) {
        for (int sign = 0; sign < 256; sign++) {
            int due = sign == 'x' ? ofTap : sign == '.' ? ofDot : -1000 - start.length();
            Due.is(start + " and the byte " + sign, Due.taps(new GrilleHotel(), start + (char) sign, 100), due);
        }
    }

    private static void tapFaults() {
        Doc.says(23, "FAULTS: 1 what can't stand there (the end, too), 2 a sixth tap, at it, 3 a third dot in a row, at it.");
        behind("", -1001, -1000);
        behind("x", -1002, -1002);
        behind("xxxxx", -2005, -1006);
        behind("x.", 1, -1002);
        behind("x.x", 1, -1004);
        behind("x.xxxxx", -2007, -1008);
        behind("x.x.", -1004, -1005);
        behind("x.x..", -1006, -3005);
        behind("x.x..x", -1007, -1007);
        behind("x.x..x.", 2, -1007);
        behind("x.x..x.x", 2, -1009);
        behind("x.x..x.x..", -1011, -3010);
        String[] texts = {"xxxxxx.x", "x.xxxxxx..x.x", "x.x...x.x", "x.x....", "x...x", "...", "x.x..xxxxxx...", "x.x..x.x...xxxxxx"};
        int[] dues = {-2005, -2007, -3005, -3005, -1002, -1000, -2010, -3010};
        for (int i = 0; i < texts.length; i++) {
            GrilleHotel h = new GrilleHotel();
            Due.is(texts[i], Due.taps(h, texts[i], 100), dues[i]);
            Due.is("empty then", h.count(5), 0);
            Due.is("ahead of no such place", Due.taps(h, texts[i], 19), dues[i]);
        }
    }

    private static void tapsArguments() {
        Doc.says(23, "TAPS by the first n bytes of the tape (1 to 60; empty then), what 100 how many LETTERS, else the LETTER at place what (0 to 19); a FAULT; -4: no such place; NONE: no such ones, it has not so many (the tape stays).");
        GrilleHotel h = new GrilleHotel();
        Doc.bounds("taps(n, 100)", n -> {
            h.check(0);
            Due.feed(h, "x.x..".repeat(13));
            return h.taps(n, 100);
        }, 1, 60, -1);
        Doc.bounds("taps(8, what)", what -> {
            h.check(0);
            Due.feed(h, "x.x..x.xx");
            return h.taps(8, what);
        }, 0, 19, -1);
        int[] whats = {0, 1, 2, 3, 19};
        int[] dues = {0, 1, -4, -4, -4};
        for (int i = 0; i < whats.length; i++) {
            h.check(0);
            Due.is("at place " + whats[i], Due.taps(h, "x.x..x.xx", whats[i]), dues[i]);
            Due.is("empty then", h.count(5), 0);
        }
        Due.feed(h, "x.x..x.xx");
        for (int what : new int[] {-1, 20, 99, 101}) {
            Due.is("what " + what, h.taps(3, what), -1);
            Due.is("the tape stays", h.count(5), 20);
        }
        Due.is("what ahead of a fault", h.taps(2, 20), -1);
        Due.is("one more than it has", h.taps(21, 100), -1);
        Due.is("the tape stays", h.count(5), 20);
        Due.is("the first n alone", h.taps(8, 1), 0);
        Due.is("has none", h.taps(1, 100), -1);
    }

    private static void tapped() {
        Doc.says(24, "TAPPED: how many taps and dots a TEXT of LETTERS (1 to 40 bytes, A to Z; K as C) takes; FAULT: 1 what can't stand there.");
        GrilleHotel h = new GrilleHotel();
        int[] taps = {3, 4, 5, 6, 7, 4, 5, 6, 7, 8, 5, 5, 6, 7, 8, 9, 6, 7, 8, 9, 10, 7, 8, 9, 10, 11};
        for (int letter = 0; letter < 26; letter++) {
            String text = Due.bytes('A' + letter);
            Due.is(text, Due.tapped(h, text), taps[letter]);
            Due.is("A" + text, Due.tapped(h, "A" + text), 3 + 2 + taps[letter]);
        }
        for (int sign = 0; sign < 256; sign++) {
            GrilleHotel one = new GrilleHotel();
            boolean isLetter = sign >= 'A' && sign <= 'Z';
            Due.is("the byte " + sign, Due.tapped(one, Due.bytes(sign)) == -1000, !isLetter);
            Due.is("A and the byte " + sign, Due.tapped(one, Due.bytes('A', sign)) == -1001, !isLetter);
            Due.is("empty then", one.count(5), 0);
        }
        Due.is("the last one", Due.tapped(h, "A".repeat(39) + "a"), -1039);
        Due.is("the first of two", Due.tapped(h, "AaAa"), -1001);
        Doc.says(24, "TAPPED by the first n bytes of the tape (1 to 40; empty then): taps and dots; a FAULT; NONE: no such n, it has not so many (the tape stays).");
        Due.is("1", Due.tapped(h, "A"), 3);
        Due.is("39", Due.tapped(h, "A".repeat(39)), 39 * 5 - 2);
        Due.is("40", Due.tapped(h, "A".repeat(40)), 40 * 5 - 2);
        Due.is("41", Due.tapped(h, "A".repeat(41)), -1);
        Due.is("the tape stays", h.count(5), 60);
        GrilleHotel b = new GrilleHotel();
        Doc.bounds("tapped(n)", n -> {
            b.check(0);
            Due.feed(b, "A".repeat(60));
            return b.tapped(n);
        }, 1, 40, -1);
        b.check(0);
        Due.feed(b, "A".repeat(20));
        Due.is("one more than it has", b.tapped(21), -1);
        Due.is("the tape stays", b.count(5), 20);
        Due.is("as many as it has", b.tapped(20), 98);
        Due.is("has none", b.tapped(1), -1);
    }

    private static void linen() {
        Doc.says(25, "LINEN of 1 to 24 ROOMS (0 on) goes round each week: that of ROOM i to a told ROOM, each to another one or its own");
        GrilleHotel h = new GrilleHotel();
        Due.is("one room", Due.linen(h, 1, 100, 0), 1);
        Due.is("one room", Due.linen(h, 1, 101, 0), 1);
        Due.is("one room", Due.linen(h, 1000000, 0, 0), 0);
        int[] round = new int[24];
        for (int i = 0; i < 24; i++) {
            round[i] = (i + 1) % 24;
        }
        Due.is("24 rooms", Due.linen(h, 0, 100, round), 24);
        Due.is("24 rooms", Due.linen(h, 0, 101, round), 1);
        Doc.says(25, "behind how many weeks all have their own again; where that of a ROOM is behind n weeks (0 to 1000000); into how many rounds they fall");
        int[] weeks = {0, 1, 22, 23, 24, 25, 999999, 1000000};
        for (int n : weeks) {
            Due.is("0 behind " + n, Due.linen(h, n, 0, round), n % 24);
            Due.is("23 behind " + n, Due.linen(h, n, 23, round), (23 + n) % 24);
        }
        int[] three = {2, 0, 1, 4, 3, 5};
        Due.is("all", Due.linen(h, 0, 100, three), 6);
        Due.is("rounds", Due.linen(h, 0, 101, three), 3);
        Due.is("the weeks matter nothing there", Due.linen(h, 1000000, 101, three), 3);
        Due.is("to a told ROOM", Due.linen(h, 1, 0, three), 2);
        Due.is("and on", Due.linen(h, 2, 0, three), 1);
        Due.is("its own", Due.linen(h, 1, 5, three), 5);
        Due.is("all their own", Due.linen(h, 0, 100, 0, 1, 2), 1);
        Due.is("all their own", Due.linen(h, 0, 101, 0, 1, 2), 3);
    }

    private static void linenOnce() {
        Doc.says(25, "-2: not each ROOM just once");
        GrilleHotel h = new GrilleHotel();
        int[][] rows = {{1}, {255}, {0, 0}, {1, 1}, {0, 2}, {2, 0}, {0, 1, 0}, {0, 1, 1}, {1, 0, 1}, {2, 1, 2}, {1, 2, 3}, {0, 1, 3}};
        for (int[] row : rows) {
            for (int what : new int[] {0, 100, 101}) {
                Due.is("twice or too far", Due.linen(h, 1, what, row), -2);
                Due.is("empty then", h.count(5), 0);
            }
        }
        int[] all = new int[24];
        for (int i = 0; i < 24; i++) {
            all[i] = 23 - i;
        }
        Due.is("each once", Due.linen(h, 1, 100, all), 2);
        all[0] = 24;
        Due.is("a room 24", Due.linen(h, 1, 100, all), -2);
        all[0] = 0;
        Due.is("0 twice, 23 never", Due.linen(h, 1, 100, all), -2);
    }

    private static void linenArguments() {
        Doc.says(25, "LINEN by the first n bytes of the tape (to which ROOM that of ROOM i goes; n 1 to 24; empty then), weeks (0 to 1000000), what 100 behind how many weeks all have their own, 101 how many rounds, else where that of ROOM what (0 to n - 1) is behind these weeks");
        GrilleHotel h = new GrilleHotel();
        String own = Due.bytes(0, 1, 2, 3, 4, 5, 6, 7, 8, 9, 10, 11, 12, 13, 14, 15, 16, 17, 18, 19, 20, 21, 22, 23, 24);
        Doc.bounds("linen(n, 0, 100)", n -> {
            h.check(0);
            Due.feed(h, own);
            return h.linen(n, 0, 100);
        }, 1, 24, -1);
        Doc.bounds("linen(3, weeks, 0)", weeks -> {
            h.check(0);
            Due.feed(h, own);
            return h.linen(3, weeks, 0);
        }, 0, 1000000, -1);
        for (int n : new int[] {1, 3, 24}) {
            Doc.bounds("linen(" + n + ", 0, what)", what -> {
                h.check(0);
                Due.feed(h, own);
                return h.linen(n, 0, what);
            }, 0, n - 1, -1);
        }
        Doc.says(25, "NONE: no such ones, it has not so many (the tape stays).");
        h.check(0);
        Due.feed(h, Due.bytes(1, 0));
        int[][] wrong = {{0, 0, 100}, {25, 0, 100}, {21, 0, 100}, {2, -1, 100}, {2, 1000001, 101}, {2, -1, 0}, {2, 0, 2}, {2, 0, 99},
            {2, 0, 102}, {2, 0, -1}};
        for (int[] row : wrong) {
            Due.is("linen(" + row[0] + ", " + row[1] + ", " + row[2] + ")", h.linen(row[0], row[1], row[2]), -1);
            Due.is("the tape stays", h.count(5), 20);
        }
        Due.is("still there", h.linen(2, 1, 1), 0);
        Due.is("empty then", h.count(5), 0);
        Due.is("has none", h.linen(1, 0, 100), -1);
    }

    private static void check() {
        Doc.says(30, "CHECK: SINS modulo 256 of ROOMS: right, or the first that is not so.");
        int[] sins = {0, 1, 255, 256, 257, 511, 512, 9999};
        for (int one : sins) {
            GrilleHotel h = Due.hotel("", 0, one, 23, one);
            Due.feed(h, Due.bytes(one % 256, 0, 0, 0, 0, 0, 0, 0, 0, 0, 0, 0, 0, 0, 0, 0, 0, 0, 0, 0, 0, 0, 0, one % 256));
            Due.is("right for " + one, h.check(24), -1);
            Due.feed(h, Due.bytes((one + 1) % 256));
            Due.is("one more than " + one, h.check(1), 0);
            Due.feed(h, Due.bytes((one + 255) % 256));
            Due.is("one less than " + one, h.check(1), 0);
        }
        Doc.says(30, "CHECK by the first n bytes of the tape (0 to 24; empty then; of ROOMS without a GUEST 0): NONE: right; else the first that is not so; -2: no such n, it has not so many (the tape stays).");
        GrilleHotel h = Due.hotel("", 1, 7);
        int[][] rows = {{0, 7, 0, 0, -1}, {1, 7, 0, 0, 0}, {0, 8, 0, 0, 1}, {0, 0, 0, 0, 1}, {0, 7, 1, 0, 2}, {0, 7, 0, 255, 3}, {0, 8, 9, 9, 1}};
        for (int[] row : rows) {
            Due.feed(h, Due.bytes(row[0], row[1], row[2], row[3]));
            Due.is("the first that is not so", h.check(4), row[4]);
            Due.is("empty then", h.count(5), 0);
        }
        Due.register(h, "1!");
        Due.feed(h, Due.bytes(0, 0));
        Due.is("of one who left 0", h.check(2), -1);
        Due.feed(h, Due.bytes(0, 7));
        Due.is("of one who left 0", h.check(2), 1);
        Due.feed(h, Due.bytes(0, 7));
        Due.is("the first n alone", h.check(1), -1);
    }

    private static void checkArguments() {
        Doc.says(30, "-2: no such n, it has not so many (the tape stays)");
        GrilleHotel h = new GrilleHotel();
        Doc.bounds("check(n)", n -> {
            h.feed(0, 0, 0, 0, 0);
            h.feed(0, 0, 0, 0, 0);
            return h.check(n);
        }, 0, 24, -2);
        Due.is("the tape stays where it was refused", h.count(5), 160);
        Due.is("0 with a tape", h.check(0), -1);
        Due.is("empty then", h.count(5), 0);
        Due.is("0 without one", h.check(0), -1);
        Due.is("1 without one", h.check(1), -2);
        h.feed(0, 0, 0, 0, 0);
        Due.is("one more than it has", h.check(21), -2);
        Due.is("the tape stays", h.count(5), 20);
        Due.is("as many as it has", h.check(20), -1);
        Due.is("empty then", h.count(5), 0);
    }
}
