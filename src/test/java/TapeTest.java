/** Promises 5, 20, 23, 24, 25: the tape, and what is told by numbers and taps on it. */
public final class TapeTest {
    public static void main(String[] args) {
        feed();
        sleep();
        taps();
        tapFaults();
        tapped();
        linen();
        linenRefused();
        Due.end("TapeTest");
    }

    private static void feed() {
        GrilleHotel h = new GrilleHotel();
        for (int i = 1; i <= 13; i++) {
            Due.is("5: feed", h.feed(0, 0, 0, 0, 0), 20 * i);
        }
        Due.is("5: more than 260", h.feed(0, 0, 0, 0, 0), -1);
        Due.is("5: count(5)", h.count(5), 260);
        h.check(0);
        for (int r = 0; r < 20; r++) {
            h.guest(r, 256 - 20 + r);
        }
        h.feed(0xECEDEEEF, 0xF0F1F2F3, 0xF4F5F6F7, 0xF8F9FAFB, 0xFCFDFEFF);
        Due.is("5: the highest of each int first", h.check(20), -1);
        h = new GrilleHotel();
        h.guest(0, 1);
        h.guest(20, 2);
        h.feed(0x01000000, 0, 0, 0, 0);
        h.feed(0x02000000, 0, 0, 0, 0);
        Due.is("5: behind what it has", h.check(24), -1);
    }

    /** Room r feels so much: guests above send nothing, a guest below sends it up to that room alone. */
    private static GrilleHotel feeling() {
        GrilleHotel h = new GrilleHotel();
        h.guest(4, 0);
        h.guest(5, 0);
        h.guest(6, 0);
        h.guest(0, 10);
        h.guest(1, 20);
        h.guest(2, 10);
        Due.law(h, "c99(1=1);d10(1=1)");
        h.hours(1);
        return h;
    }

    private static void sleep() {
        GrilleHotel h = feeling();
        int rooms = Due.bits(4, 5, 6);
        Due.is("20: in all", Due.sleep(h, rooms, 100, 3, 1, 2), 2 * 10 + 20 + 3 * 10);
        Due.is("20: the tape is empty then", h.count(5), 0);
        int[] row = {0, 1, 2};
        for (int place = 0; place < 3; place++) {
            Due.is("20: place " + place, Due.sleep(h, rooms, place, 3, 1, 2), row[place]);
        }
        int[] other = {1, 0, 2};
        for (int place = 0; place < 3; place++) {
            Due.is("20: place " + place, Due.sleep(h, rooms, place, 0, 3, 3), other[place]);
        }
        Due.is("20: one", Due.sleep(h, Due.bits(5), 100, 255), 255 * 20);
        Due.is("20: one", Due.sleep(h, Due.bits(5), 0, 255), 0);
        int six = Due.bits(0, 4, 5, 6, 7, 23);
        Due.is("20: six in all", Due.sleep(h, six, 100, 9, 8, 7, 6, 5, 4), 4 * 20 + 5 * 10 + 6 * 10);
        int[] sixRow = {0, 3, 5, 4, 1, 2};
        for (int place = 0; place < 6; place++) {
            Due.is("20: six, place " + place, Due.sleep(h, six, place, 9, 8, 7, 6, 5, 4), sixRow[place]);
        }
        sleepRefused(h);
        sleepBig();
    }

    private static void sleepRefused(GrilleHotel h) {
        int three = Due.bits(4, 5, 6);
        Due.feed(h, Due.bytes(1, 2, 3));
        Due.is("20: n 0", h.sleep(0, 0, 100), -1);
        Due.is("20: n 7", h.sleep(7, 127, 100), -1);
        Due.is("20: too few rooms", h.sleep(3, 3, 100), -1);
        Due.is("20: too many rooms", h.sleep(2, three, 100), -1);
        Due.is("20: a room 24", h.sleep(1, 1 << 24, 100), -1);
        Due.is("20: a room 31", h.sleep(1, 1 << 31, 100), -1);
        Due.is("20: what 3", h.sleep(3, three, 3), -1);
        Due.is("20: what -1", h.sleep(3, three, -1), -1);
        Due.is("20: what 101", h.sleep(3, three, 101), -1);
        Due.is("20: the tape stays", h.count(5), 20);
        h.check(0);
        Due.is("20: it has not so many", h.sleep(3, three, 100), -1);
    }

    /** What is minded may be more than 31 bits hold. */
    private static void sleepBig() {
        GrilleHotel h = new GrilleHotel();
        for (int q = 20; q < 24; q++) {
            h.guest(q, 0);
        }
        Due.law(h, "c99(1=1);d10(f=5)");
        for (int round = 0; round < 11; round++) {
            for (int r = 0; r < 20; r++) {
                h.guest(r, 9999);
            }
            h.hours(102);
        }
        long each = 5 * 99999L;
        Due.is("20: felt", h.roomIs(20, 5), each);
        Due.is("20: many", Due.sleep(h, Due.bits(20, 21, 22, 23), 100, 255, 255, 255, 255), 4 * 255 * each);
    }

    private static void taps() {
        GrilleHotel h = new GrilleHotel();
        String square = "ABCDEFGHIJLMNOPQRSTUVWXYZ";
        for (int i = 0; i < 25; i++) {
            String text = "x".repeat(i / 5 + 1) + "." + "x".repeat(i % 5 + 1);
            Due.is("23: " + text, Due.taps(h, text, 0), square.charAt(i) - 'A');
            Due.is("23: " + text, Due.taps(h, text, 100), 1);
        }
        Due.is("23: two", Due.taps(h, "x.x..xxxxx.xxxxx", 100), 2);
        Due.is("23: two", Due.taps(h, "x.x..xxxxx.xxxxx", 1), 25);
        Due.is("23: no such place", Due.taps(h, "x.x..xxxxx.xxxxx", 2), -4);
        Due.is("23: no such place", Due.taps(h, "x.x", 19), -4);
        Due.is("23: empty then", h.count(5), 0);
        String twelve = "x.x" + "..x.x".repeat(11);
        Due.is("23: twelve", Due.taps(h, twelve, 100), 12);
        Due.is("23: 60 bytes", Due.taps(h, twelve + "xx", 11), 2);
        Due.feed(h, "x.x");
        Due.is("23: what 20", h.taps(3, 20), -1);
        Due.is("23: what -1", h.taps(3, -1), -1);
        Due.is("23: what 99", h.taps(3, 99), -1);
        Due.is("23: what 101", h.taps(3, 101), -1);
        Due.is("23: n 0", h.taps(0, 100), -1);
        Due.is("23: n 21 of 20", h.taps(21, 100), -1);
        Due.feed(h, "x".repeat(60));
        Due.is("23: n 61", h.taps(61, 100), -1);
        Due.is("23: the tape stays", h.count(5), 80);
        Due.is("23: it is still there", h.taps(3, 100), 1);
    }

    private static void tapFaults() {
        GrilleHotel h = new GrilleHotel();
        String[] texts = {".", "a", "x", "x.", "x..", "x...", "xa", "x.a", "x.xa", "xxxxxx", "xxxxxx.x", "x.xxxxxx",
            "x.x.", "x.x..", "x.x...", "x.x.x", "x.x..a", "x.x..x", "x.x..x.x...x.x", "x.x..xxxxxx", "X.x"};
        int[] faults = {-1000, -1000, -1001, -1002, -1002, -1002, -1001, -1002, -1003, -2005, -2005, -2007,
            -1004, -1005, -3005, -1004, -1005, -1006, -3010, -2010, -1000};
        for (int i = 0; i < texts.length; i++) {
            Due.is("23: " + texts[i], Due.taps(h, texts[i], 100), faults[i]);
            Due.is("23: " + texts[i] + " at 19", Due.taps(h, texts[i], 19), faults[i]);
            Due.is("23: empty then", h.count(5), 0);
        }
    }

    private static void tapped() {
        GrilleHotel h = new GrilleHotel();
        Due.is("24: A", Due.tapped(h, "A"), 3);
        Due.is("24: Z", Due.tapped(h, "Z"), 11);
        Due.is("24: C", Due.tapped(h, "C"), 5);
        Due.is("24: K as C", Due.tapped(h, "K"), 5);
        Due.is("24: J", Due.tapped(h, "J"), 8);
        Due.is("24: L", Due.tapped(h, "L"), 5);
        Due.is("24: AKZ", Due.tapped(h, "AKZ"), 3 + 2 + 5 + 2 + 11);
        Due.is("24: forty", Due.tapped(h, "Z".repeat(40)), 40 * 11 + 39 * 2);
        Due.is("24: small", Due.tapped(h, "a"), -1000);
        Due.is("24: behind", Due.tapped(h, "AB["), -1002);
        Due.is("24: ahead of A", Due.tapped(h, "A@Z."), -1001);
        Due.is("24: empty then", h.count(5), 0);
        Due.is("24: has none", h.tapped(1), -1);
        Due.feed(h, "A".repeat(60));
        Due.is("24: n 0", h.tapped(0), -1);
        Due.is("24: n 41", h.tapped(41), -1);
        Due.is("24: n -1", h.tapped(-1), -1);
        Due.is("24: the tape stays", h.count(5), 60);
        Due.is("24: n 2", h.tapped(2), 8);
    }

    private static void linen() {
        GrilleHotel h = new GrilleHotel();
        int[] to = {1, 2, 0, 4, 3};
        Due.is("25: home", Due.linen(h, 0, 100, to), 6);
        Due.is("25: rounds", Due.linen(h, 0, 101, to), 2);
        int[][] weeks = {{0, 0, 0}, {0, 1, 1}, {0, 2, 2}, {0, 3, 0}, {3, 1, 4}, {4, 1000000, 4}, {1, 1000000, 2}};
        for (int[] row : weeks) {
            Due.is("25: of " + row[0] + " behind " + row[1], Due.linen(h, row[1], row[0], to), row[2]);
        }
        Due.is("25: own", Due.linen(h, 5, 100, 0, 1, 2), 1);
        Due.is("25: own rounds", Due.linen(h, 5, 101, 0, 1, 2), 3);
        Due.is("25: one with its own", Due.linen(h, 5, 100, 1, 0, 2), 2);
        Due.is("25: one round", Due.linen(h, 5, 100, 1, 2, 3, 0), 4);
        int[] many = new int[24];
        int[] rounds = {3, 5, 7, 8, 1};
        int start = 0;
        for (int length : rounds) {
            for (int i = 0; i < length; i++) {
                many[start + i] = start + (i + 1) % length;
            }
            start += length;
        }
        Due.is("25: 24 rooms", Due.linen(h, 0, 100, many), 840);
        Due.is("25: 24 rooms", Due.linen(h, 0, 101, many), 5);
        Due.is("25: 24 rooms", Due.linen(h, 999999, 15, many), 15 + 999999 % 8);
        Due.is("25: its own round", Due.linen(h, 999999, 23, many), 23);
    }

    private static void linenRefused() {
        GrilleHotel h = new GrilleHotel();
        Due.is("25: twice", Due.linen(h, 0, 100, 0, 0), -2);
        Due.is("25: no such room", Due.linen(h, 0, 100, 0, 2), -2);
        Due.is("25: 255", Due.linen(h, 0, 0, 255), -2);
        Due.is("25: empty then", h.count(5), 0);
        Due.is("25: has none", h.linen(1, 0, 100), -1);
        Due.feed(h, Due.bytes(1, 0));
        Due.is("25: n 0", h.linen(0, 0, 100), -1);
        Due.is("25: n 25", h.linen(25, 0, 100), -1);
        Due.is("25: n 21 of 20", h.linen(21, 0, 100), -1);
        Due.is("25: weeks -1", h.linen(2, -1, 100), -1);
        Due.is("25: weeks 1000001", h.linen(2, 1000001, 100), -1);
        Due.is("25: what 2", h.linen(2, 0, 2), -1);
        Due.is("25: what -1", h.linen(2, 0, -1), -1);
        Due.is("25: what 99", h.linen(2, 0, 99), -1);
        Due.is("25: what 102", h.linen(2, 0, 102), -1);
        Due.is("25: the tape stays", h.count(5), 20);
        Due.is("25: still there", h.linen(2, 1, 0), 1);
    }
}
