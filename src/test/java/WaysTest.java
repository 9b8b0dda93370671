import java.util.Random;

/** Promises 12 to 19 and 22: ways, odds, turns, stockings, ropes. */
public final class WaysTest {
    public static void main(String[] args) {
        way();
        odds();
        fromWhere();
        meet();
        cowls();
        turn();
        ways();
        stockings();
        stockingsByTrial();
        ropes();
        Due.end("WaysTest");
    }

    private static void way() {
        GrilleHotel h = new GrilleHotel();
        h.louvre(2, 2);
        h.louvre(7, 2);
        h.louvre(11, 0);
        h.louvre(14, 0);
        h.louvre(17, 0);
        int[] way = {7, 11, 14, 17, 20, 24};
        for (int i = 0; i < way.length; i++) {
            Due.is("12: way(2, " + i + ")", h.way(2, i), way[i]);
        }
        Due.is("12: way(2, 6)", h.way(2, 6), -2);
        Due.is("12: way(2, -1)", h.way(2, -1), -2);
        Due.is("12: max", h.way(2, Integer.MAX_VALUE), -2);
        Due.is("12: way(23, 0)", h.way(23, 0), 24);
        Due.is("12: way(23, 1)", h.way(23, 1), -2);
        Due.is("12: way(19, 0)", h.way(19, 0), 23);
        Due.is("12: way(19, 1)", h.way(19, 1), 24);
        Due.is("12: way(24, 0)", h.way(24, 0), -1);
        Due.is("12: way(-1, 0)", h.way(-1, 0), -1);
        Due.is("12: no room, no place", h.way(24, -1), -1);
        h.louvre(0, 0);
        Due.is("12: stays at the side", h.way(0, 0), 4);
        h.louvre(3, 2);
        Due.is("12: stays at the side", h.way(3, 0), 7);
        h.louvre(20, 2);
        Due.is("12: a louvre at the top", h.way(20, 0), 24);
    }

    private static void odds() {
        GrilleHotel h = new GrilleHotel();
        for (int p = 4; p < 24; p += 4) {
            h.guest(p, 0);
        }
        int[] halves = {2, 4, 8, 16, 32, 32};
        int[] to = {4, 8, 12, 16, 20, 24};
        int[][] due3 = {{3, 10}, {21, 100}, {147, 1000}, {1029, 10000}, {7203, 100000}, {16807, 100000}};
        for (int i = 0; i < to.length; i++) {
            Due.is("13: 3 tenths", h.odds(0, to[i], 3, 0), due3[i][0]);
            Due.is("13: 3 tenths", h.odds(0, to[i], 3, 1), due3[i][1]);
            Due.is("13: 5 tenths", h.odds(0, to[i], 5, 0), 1);
            Due.is("13: 5 tenths", h.odds(0, to[i], 5, 1), halves[i]);
            Due.is("13: 10 tenths", h.odds(0, to[i], 10, 0), i == 0 ? 1 : 0);
            Due.is("13: 10 tenths", h.odds(0, to[i], 10, 1), 1);
            Due.is("13: 0 tenths", h.odds(0, to[i], 0, 0), i == 5 ? 1 : 0);
            Due.is("13: 0 tenths", h.odds(0, to[i], 0, 1), 1);
        }
        h.grille(8, false);
        Due.is("13: a shut one", h.odds(0, 8, 3, 0), 0);
        Due.is("13: behind a shut one", h.odds(0, 12, 3, 0), 21);
        Due.is("13: not on the way", h.odds(0, 5, 3, 0), 0);
        Due.is("13: not on the way", h.odds(0, 5, 3, 1), 1);
        Due.is("13: below", h.odds(8, 4, 3, 0), 0);
        Due.is("13: room 0", h.odds(8, 0, 3, 0), 0);
        Due.is("13: room 0", h.odds(8, 0, 3, 1), 1);
        Due.is("13: from the top", h.odds(20, 24, 3, 0), 1);
        Due.is("13: from the top", h.odds(20, 24, 3, 1), 1);
        int[][] wrong = {{24, 0, 3, 0}, {-1, 0, 3, 0}, {0, 25, 3, 0}, {0, -1, 3, 0}, {0, 4, -1, 0}, {0, 4, 11, 0},
            {0, 4, 3, 2}, {0, 4, 3, -1}};
        for (int[] row : wrong) {
            Due.is("13: no such ones", h.odds(row[0], row[1], row[2], row[3]), -1);
        }
    }

    private static void fromWhere() {
        GrilleHotel h = new GrilleHotel();
        Due.is("14: straight", h.fromWhere(20), Due.bits(0, 4, 8, 12, 16));
        Due.is("14: the lowest", h.fromWhere(3), 0);
        h.louvre(1, 0);
        h.louvre(13, 0);
        Due.is("14: turned", h.fromWhere(4), Due.bits(0, 1));
        Due.is("14: turned", h.fromWhere(16), Due.bits(0, 1, 4, 8, 12, 13, 5, 9));
        Due.is("14: fromWhere(24)", h.fromWhere(24), -1);
        Due.is("14: fromWhere(-1)", h.fromWhere(-1), -1);
    }

    private static void meet() {
        GrilleHotel h = new GrilleHotel();
        Due.is("15: the same", h.meet(7, 7), 7);
        Due.is("15: nowhere", h.meet(0, 1), -2);
        Due.is("15: one on the other's way", h.meet(12, 0), 12);
        Due.is("15: one on the other's way", h.meet(0, 12), 12);
        h.louvre(5, 2);
        Due.is("15: meet(1, 2)", h.meet(1, 2), 10);
        Due.is("15: meet(1, 18)", h.meet(1, 18), 18);
        Due.is("15: meet(1, 9)", h.meet(1, 9), -2);
        Due.is("15: at the top", h.meet(20, 21), -2);
        h.louvre(16, 2);
        Due.is("15: at the top", h.meet(0, 17), 21);
        Due.is("15: meet(24, 0)", h.meet(24, 0), -1);
        Due.is("15: meet(0, 24)", h.meet(0, 24), -1);
        Due.is("15: meet(-1, 0)", h.meet(-1, 0), -1);
        Due.is("15: meet(0, -1)", h.meet(0, -1), -1);
    }

    private static void cowls() {
        GrilleHotel h = new GrilleHotel();
        Due.is("16: four", h.cowls(), 4);
        h.louvre(16, 2);
        Due.is("16: three", h.cowls(), 3);
        h.louvre(3, 0);
        Due.is("16: two", h.cowls(), 2);
        h.louvre(10, 0);
        Due.is("16: one", h.cowls(), 1);
        h.louvre(20, 2);
        Due.is("16: one", h.cowls(), 1);
    }

    private static void turn() {
        GrilleHotel h = new GrilleHotel();
        Due.is("17: none", h.turn(0, 20, 100), 0);
        Due.is("17: one", h.turn(0, 21, 100), 1);
        int[] row = {0, 0, 0, 0, 1};
        for (int i = 0; i < 5; i++) {
            Due.is("17: least row " + i, h.turn(0, 21, i), row[i]);
        }
        Due.is("17: three", h.turn(0, 15, 100), 3);
        int[] three = {1, 2, 3};
        for (int i = 0; i < 3; i++) {
            Due.is("17: row " + i, h.turn(0, 15, i), three[i]);
        }
        Due.is("17: no such place", h.turn(0, 15, 3), -4);
        Due.is("17: it can't be", h.turn(0, 11, 100), -2);
        Due.is("17: it can't be", h.turn(0, 11, 0), -2);
        Due.is("17: it can't be", h.turn(0, 11, 4), -2);
        h.louvre(0, 0);
        Due.is("17: stays at the side all the same", h.turn(0, 4, 100), 0);
        h.louvre(0, 2);
        Due.is("17: turned back", h.turn(0, 4, 100), 1);
        Due.is("17: right", h.turn(0, 5, 100), 0);
        Due.is("17: the last column", h.turn(3, 7, 100), 0);
        Due.is("17: the last column", h.turn(15, 22, 1), 2);
        Due.is("17: no such place from above", h.turn(15, 22, 2), -4);
        h.louvre(5, 2);
        h.louvre(10, 2);
        Due.is("17: all turned", h.turn(0, 15, 100), 0);
        int[][] wrong = {{24, 23, 100}, {-1, 23, 100}, {0, 24, 100}, {0, -1, 100}, {0, 0, 100}, {0, 1, 100}, {4, 0, 100},
            {0, 20, 5}, {0, 20, -1}, {0, 20, 99}, {0, 20, 101}, {20, 20, 100}};
        for (int[] one : wrong) {
            Due.is("17: no such ones", h.turn(one[0], one[1], one[2]), -1);
        }
    }

    private static void ways() {
        GrilleHotel h = new GrilleHotel();
        Due.is("18: one up", h.ways(0, 4), 1);
        Due.is("18: one up", h.ways(1, 4), 1);
        Due.is("18: too far", h.ways(0, 6), 0);
        Due.is("18: two up", h.ways(0, 8), 2);
        Due.is("18: two up", h.ways(1, 9), 3);
        Due.is("18: two up", h.ways(0, 10), 1);
        Due.is("18: five up", h.ways(0, 20), 21);
        Due.is("18: five up", h.ways(0, 23), 13);
        Due.is("18: five up", h.ways(1, 22), 43);
        h.louvre(0, 2);
        Due.is("18: whatever the louvres are", h.ways(0, 4), 1);
        int[][] wrong = {{24, 23}, {-1, 23}, {0, 24}, {0, -1}, {0, 0}, {0, 3}, {4, 0}};
        for (int[] one : wrong) {
            Due.is("18: no such ones", h.ways(one[0], one[1]), -1);
        }
    }

    private static void stockings() {
        GrilleHotel h = new GrilleHotel();
        Due.is("19: no guests", h.stockings(0xFFFFFF, 0), 0);
        for (int r = 0; r < 24; r++) {
            h.guest(r, 0);
        }
        Due.is("19: all", h.stockings(0xFFFFFF, 0), 20);
        Due.is("19: all, the least bits", h.stockings(0xFFFFFF, 1), 0xFFFFF);
        Due.is("19: none", h.stockings(0, 0), 0);
        Due.is("19: none", h.stockings(0, 1), 0);
        Due.is("19: the top alone", h.stockings(0xF00000, 0), 0);
        Due.is("19: one", h.stockings(Due.bits(3), 1), Due.bits(3));
        Due.is("19: two", h.stockings(Due.bits(3, 7), 1), Due.bits(3, 7));
        h.louvre(0, 2);
        h.louvre(1, 1);
        h.louvre(2, 0);
        for (int r = 6; r < 20; r++) {
            h.grille(r, r == 17);
        }
        h.grille(21, false);
        Due.is("19: others' where that is fewer", h.stockings(Due.bits(0, 1, 2), 0), 2);
        Due.is("19: others' where that is fewer", h.stockings(Due.bits(0, 1, 2), 1), Due.bits(5, 17));
        h.grille(17, false);
        Due.is("19: one for three", h.stockings(Due.bits(0, 1, 2), 1), Due.bits(5));
        Due.is("19: like ones", h.stockings(Due.bits(0), 1), Due.bits(0));
        int[][] wrong = {{-1, 0}, {1 << 24, 0}, {Integer.MIN_VALUE, 0}, {1, 2}, {1, -1}};
        for (int[] one : wrong) {
            Due.is("19: no such ones", h.stockings(one[0], one[1]), -1);
        }
    }

    /** With few guests every choice can be tried: the model does so. */
    private static void stockingsByTrial() {
        Random random = new Random(19);
        for (int round = 0; round < 400; round++) {
            GrilleHotel h = new GrilleHotel();
            Model m = new Model();
            for (int r = 0; r < 24; r++) {
                int set = random.nextInt(3);
                h.louvre(r, set);
                m.louvre(r, set);
            }
            for (int i = 0; i < 12; i++) {
                int r = random.nextInt(24);
                h.guest(r, 0);
                m.guest(r, 0);
            }
            int rooms = random.nextInt(1 << 24) | random.nextInt(1 << 24);
            Due.is("19: how many, round " + round, h.stockings(rooms, 0), m.stockings(rooms, 0));
            Due.is("19: which, round " + round, h.stockings(rooms, 1), m.stockings(rooms, 1));
        }
    }

    /** Grease in single rooms: each is sent one from the room below it, and it settles there. */
    private static GrilleHotel greased(int... rooms) {
        GrilleHotel h = new GrilleHotel();
        for (int p : rooms) {
            h.guest(p - 4, 3);
            Due.law(h, "c3(1=1);k3(p=" + p + ")");
            h.hours(1);
            Due.register(h, (p - 4) + "!");
        }
        return h;
    }

    private static void ropes() {
        GrilleHotel h = new GrilleHotel();
        Due.is("22: at the top", h.ropes(20, 0, 0), 0);
        Due.is("22: at the top", h.ropes(20, 0, 1), 1);
        Due.is("22: down", h.ropes(3, 0, 0), 0);
        Due.is("22: down", h.ropes(3, 0, 1), 6);
        h = greased(12);
        Due.is("22: grease", h.roomIs(12, 4), 3);
        Due.is("22: a bend", h.ropes(0, 2, 0), 1);
        Due.is("22: a bend", h.ropes(0, 2, 1), 7);
        Due.is("22: no more than the bound", h.ropes(0, 3, 0), 0);
        Due.is("22: above it all the same", h.ropes(16, 0, 0), 0);
        Due.is("22: it itself", h.ropes(12, 2, 0), -2);
        Due.is("22: it itself", h.ropes(12, 2, 1), -2);
        h = greased(20, 21, 22, 15, 10, 11);
        Due.is("22: bends", h.ropes(3, 0, 0), 3);
        Due.is("22: bends", h.ropes(3, 0, 1), 10);
        Due.is("22: bends at the top", h.ropes(16, 0, 0), 1);
        Due.is("22: bends at the top", h.ropes(16, 0, 1), 5);
        h = greased(17, 18, 19, 12);
        Due.is("22: not along the side again", h.ropes(8, 0, 0), -2);
        h = greased(16, 17, 18, 15);
        Due.is("22: nor along the other", h.ropes(11, 0, 0), -2);
        h = greased(20, 21, 22, 23);
        Due.is("22: no way", h.ropes(0, 0, 0), -2);
        Due.is("22: a way", h.ropes(0, 3, 0), 0);
        h = greased(13, 14, 15, 4, 22, 23);
        Due.is("22: few bends ahead of few places", h.ropes(0, 0, 0), 3);
        int[][] wrong = {{24, 0, 0}, {-1, 0, 0}, {0, -1, 0}, {0, 100000, 0}, {0, 0, 2}, {0, 0, -1}};
        for (int[] one : wrong) {
            Due.is("22: no such ones", h.ropes(one[0], one[1], one[2]), -1);
        }
        Due.is("22: the highest bound", h.ropes(0, 99999, 0), 0);
    }
}
