/** The edges of an hour: who sends up, how much, what is left of it, where it comes out, and the draws. */
final class HourEdges {
    private HourEdges() {
    }

    static void all() {
        whoSends();
        byNumbers();
        howMuch();
        settling();
        comingOut();
        theWay();
        theCowl();
        oneMore();
        draws();
        seed();
        tried();
        triedWhats();
    }

    private static void whoSends() {
        Doc.says(8, "AN HOUR: each ROOM with a GUEST, SINS above 0 and an open GRILLE, by numbers, if x does not hold");
        for (int r : new int[] {0, 11, 23}) {
            GrilleHotel h = Due.hotel("c1(1=1);x(h=1)", r, 1);
            Due.is("sins 1 of " + r, h.tried(1, 2), 1);
            h.grille(r, false);
            Due.is("a shut grille of " + r, h.tried(1, 2), 0);
            h.grille(r, true);
            h.guest(r, 0);
            Due.is("sins 0 of " + r, h.tried(1, 2), 0);
            h.guest(r, 2);
            Due.is("in two hours with fog in the second", h.tried(2, 2), 1);
            Due.register(h, r + "!");
            Due.is("no guest in " + r, h.tried(1, 2), 0);
        }
        GrilleHotel all = Due.hotel("c1(1=1)");
        for (int r = 0; r < 24; r++) {
            all.guest(r, 9);
        }
        Due.is("all of them", all.tried(1, 2), 24);
    }

    /** Room 0 is ahead of room 4, room 4 of room 8: each feels in that same hour what was sent ahead of it. */
    private static void byNumbers() {
        Doc.says(8, "each ROOM with a GUEST, SINS above 0 and an open GRILLE, by numbers");
        GrilleHotel h = Due.hotel("c1+w(1=1);d10(1=1)", 8, 50, 4, 50, 0, 50, 12, 0);
        Due.is("came out", h.hours(1), 1 + 2 + 3);
        Due.is("4 of 0", h.feels(4, 0), 1);
        Due.is("8 of 4", h.feels(8, 4), 2);
        Due.is("12 of 8", h.feels(12, 8), 3);
    }

    private static void howMuch() {
        Doc.says(8, "it sends up c, SINS at most (0: nothing more); SINS are less by that");
        int[][] rows = {{4, 5, 4}, {5, 5, 5}, {6, 5, 5}, {99, 98, 98}, {99, 99, 99}, {99, 100, 99}, {1, 1, 1}};
        for (int[] row : rows) {
            GrilleHotel h = Due.hotel("c" + row[0] + "(1=1)", 5, row[1]);
            h.hours(1);
            Due.is("c" + row[0] + " of " + row[1] + " goes out", h.count(1), row[2]);
            Due.is("c" + row[0] + " of " + row[1] + " leaves", h.roomIs(5, 0), row[1] - row[2]);
            Due.is("the guest stays", h.roomIs(5, 1), 1);
        }
        GrilleHotel none = Due.hotel("c0(1=1);k5(1=1);d10(1=1)", 5, 9, 9, 0);
        Due.is("0 comes out nowhere", none.hours(1), 0);
        Due.is("0 leaves them", none.roomIs(5, 0), 9);
        Due.is("0 settles nowhere", none.count(8), 0);
        Due.is("0 draws nothing", none.count(6), 1);
        Due.is("the hour goes by all the same", none.count(0), 1);
    }

    private static void settling() {
        Doc.says(8, "k of it at most (asked then) settles: GREASE is more by that; is nothing left, that is all");
        int[][] rows = {{4, 4, 1, 1}, {5, 5, 0, 0}, {6, 5, 0, 0}, {1, 1, 4, 1}, {0, 0, 5, 1}};
        for (int[] row : rows) {
            GrilleHotel h = Due.hotel("c5(1=1);k" + row[0] + "(p=9);d10(p=9)", 5, 50, 9, 0);
            Due.is("k" + row[0] + " of 5 comes out", h.hours(1), row[2]);
            Due.is("k" + row[0] + " of 5 settles", h.roomIs(9, 4), row[1]);
            Due.is("k" + row[0] + " of 5 draws", h.count(6) != 1, row[3] == 1);
            Due.is("none goes out", h.count(1), 0);
        }
        GrilleHotel h = Due.hotel("c9(1=1);ka/2(1=1)", 1, 50);
        h.hours(1);
        int[] grease = {4, 2, 1, 1, 0};
        for (int i = 0; i < 5; i++) {
            Due.is("asked then, at place " + i, h.roomIs(5 + 4 * i, 4), grease[i]);
        }
        Due.is("the rest goes out", h.count(1), 1);
        Due.is("not where it comes from", h.roomIs(1, 4), 0);
        h = Due.hotel("c9(1=1);k1+g(p=5)", 1, 50);
        h.hours(2);
        Due.is("asked then, of grease that is there", h.roomIs(5, 4), 1 + 2);
    }

    private static void comingOut() {
        Doc.says(8, "is the GRILLE there open and a GUEST there, with a DRAW below d (asked then) it comes out");
        GrilleHotel h = Due.hotel("c5(1=1);d10(p=9)", 5, 50, 9, 0);
        Due.is("open, a guest", h.hours(1), 5);
        Due.is("one draw", h.count(6), 25173 + 13849);
        h = Due.hotel("c5(1=1);d10(p=9)", 5, 50, 9, 0);
        h.grille(9, false);
        Due.is("shut, a guest", h.hours(1), 0);
        Due.is("no draw", h.count(6), 1);
        h = Due.hotel("c5(1=1);d10(p=9)", 5, 50);
        Due.is("open, no guest", h.hours(1), 0);
        Due.is("no draw", h.count(6), 1);
        Due.is("it goes on", h.count(1), 5);
        h = Due.hotel("c5(1=1);d10(w=0)", 5, 50, 9, 0, 13, 0);
        Due.is("asked then", h.hours(2), 10);
        Due.is("first here", h.feels(9, 5), 5);
        Due.is("then there", h.feels(13, 5), 5);
        Doc.says(8, "what that ROOM FEELS of r is more by what is left, and that is all.");
        h = Due.hotel("c5(1=1);k1(1=1);d10(1=1)", 5, 50, 9, 0, 13, 0);
        Due.is("came out", h.hours(2), 8);
        Due.is("felt of r", h.feels(9, 5), 8);
        Due.is("nowhere else", h.feels(13, 5), 0);
        Due.is("nor does it settle farther up", h.count(8), 2);
        Due.is("nor go out", h.count(1), 0);
        Due.is("the sender feels nothing of it", h.roomIs(5, 5), 0);
    }

    private static void theWay() {
        Doc.says(8, "It goes THE WAY, ROOM by ROOM");
        GrilleHotel h = Due.hotel("c9(1=1);k1(1=1)", 3, 9);
        h.louvre(3, 2);
        h.louvre(7, 0);
        h.louvre(10, 0);
        h.louvre(13, 0);
        h.louvre(16, 0);
        h.hours(1);
        int[] way = {7, 10, 13, 16, 20};
        for (int r = 0; r < 24; r++) {
            boolean isOnWay = false;
            for (int p : way) {
                isOnWay |= p == r;
            }
            Due.is("grease of " + r, h.roomIs(r, 4), isOnWay ? 1 : 0);
        }
        Due.is("the rest goes out", h.count(1), 4);
    }

    private static void theCowl() {
        Doc.says(8, "What comes to THE COWL goes out.");
        for (int r = 20; r < 24; r++) {
            GrilleHotel h = Due.hotel("c5(1=1);k3(1=1);d10(1=1)", r, 9);
            h.louvre(r, r % 3);
            Due.is("from " + r + " nothing comes out", h.hours(1), 0);
            Due.is("from " + r + " nothing settles", h.count(8), 0);
            Due.is("from " + r + " nothing is drawn", h.count(6), 1);
            Due.is("from " + r + " all goes out", h.count(1), 5);
        }
        GrilleHotel h = Due.hotel("c5(1=1);d10(p=23)", 19, 5, 23, 0);
        Due.is("in the last room it may come out still", h.hours(1), 5);
    }

    private static void oneMore() {
        Doc.says(8, "THE HOUR is one more");
        GrilleHotel h = new GrilleHotel();
        int all = 0;
        for (int n : new int[] {1, 2, 239, 240}) {
            h.hours(n);
            all += n;
            Due.is("behind " + n, h.count(0), all);
        }
        h.hours(0);
        h.hours(241);
        Due.is("behind those refused", h.count(0), all);
    }

    private static void draws() {
        Doc.says(8, "DRAWS: X = (25173 X + 13849) modulo 65536 (X is THE SEED at first, 1): X modulo 10.");
        for (int seed : new int[] {1, 0, 2, 32767, 32768, 65534, 65535}) {
            GrilleHotel h = Due.hotel("c1(1=1);d5(1=1)", 4, 200, 8, 0, 12, 0, 20, 0);
            if (seed != 1) {
                h.seed(seed);
            }
            long x = seed;
            int[] felt = new int[24];
            for (int hour = 0; hour < 100; hour++) {
                int[] rooms = {8, 12, 20};
                for (int i = 0; i < rooms.length; i++) {
                    x = (25173L * x + 13849L) % 65536L;
                    if (x % 10 < 5) {
                        felt[rooms[i]]++;
                        break;
                    }
                }
            }
            h.hours(100);
            Due.is("X behind 100 hours from " + seed, h.count(6), x);
            for (int r : new int[] {8, 12, 20}) {
                Due.is("felt in " + r + " from " + seed, h.feels(r, 4), felt[r]);
            }
        }
    }

    private static void seed() {
        GrilleHotel h = new GrilleHotel();
        Doc.says(27, "THE SEED (0 to 65535; X, too): true; false: no such number.");
        Doc.bounds("seed(x)", x -> h.seed(x) ? 1 : 0, 0, 65535, 0);
        Due.is("X is the last that was taken", h.count(6), 65535);
        for (int x : new int[] {0, 1, 65534, 65535}) {
            h.seed(x);
            Due.is("X", h.count(6), x);
            h.seed(65536);
            h.seed(-1);
            Due.is("X behind those refused", h.count(6), x);
        }
    }

    private static GrilleHotel busy() {
        GrilleHotel h = Due.hotel("c20+r(1=1);k1+p%4(h%2=0);d3(1=1)");
        for (int r = 0; r < 24; r += 3) {
            h.guest(r, 500 + r);
            h.louvre(r, r % 3);
        }
        h.hours(3);
        h.keep();
        h.hours(2);
        return h;
    }

    private static void tried() {
        Doc.says(9, "TRIED are n HOURS by the DRAWS that will come (nothing is changed).");
        GrilleHotel h = busy();
        for (int n : new int[] {1, 2, 240}) {
            for (int what : new int[] {0, 1, 2, 3, 100, 123}) {
                h.tried(n, what);
            }
        }
        State.same("behind tried ones", h, busy());
        for (int n : new int[] {1, 7, 240}) {
            GrilleHotel one = busy();
            int grease = one.count(8);
            int cowl = one.count(1);
            int out = one.tried(n, 0);
            int settled = one.tried(n, 1);
            int gone = one.tried(n, 2);
            int sins = one.tried(n, 3);
            int felt = one.tried(n, 106);
            Due.is("what came out", one.hours(n), out);
            Due.is("what settled", one.count(8) - grease, settled);
            Due.is("what went out", one.count(1) - cowl, gone);
            Due.is("sins", one.count(7), sins);
            Due.is("felt in 6", one.roomIs(6, 5), felt);
        }
    }

    private static void triedWhats() {
        Doc.says(9, "what 0 how much came out in ROOMS, 1 how much settled, 2 how much went out at the top");
        Doc.says(9, "3 SINS of all then, 100 + r all that ROOM r FEELS then; NONE: no such ones.");
        GrilleHotel h = Due.hotel("c9(1=1);k2(p=23);d10(p=23)", 19, 50, 23, 8);
        int[] dues = {7, 2, 8, 41};
        for (int what = 0; what <= 3; what++) {
            Due.is("tried(1, " + what + ")", h.tried(1, what), dues[what]);
        }
        Due.is("tried(1, 123)", h.tried(1, 123), 7);
        Due.is("tried(2, 123)", h.tried(2, 123), 14);
        Due.is("tried(1, 100)", h.tried(1, 100), 0);
        for (int what : new int[] {-1, 4, 23, 24, 50, 99, 124, Integer.MIN_VALUE, Integer.MAX_VALUE, Integer.MIN_VALUE + 100}) {
            Due.is("tried(1, " + what + ")", h.tried(1, what), -1);
        }
        Doc.bounds("tried(n, 3)", n -> h.tried(n, 3), 1, 240, -1);
        Doc.bounds("tried(n, 123)", n -> h.tried(n, 123), 1, 240, -1);
    }
}
