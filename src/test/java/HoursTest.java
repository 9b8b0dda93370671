/** Promises 8 and 9: hours that go by, and hours that are tried. */
public final class HoursTest {
    public static void main(String[] args) {
        refused();
        whoSends();
        inOrder();
        settling();
        draws();
        tried();
        smallAndLarge();
        bounds();
        lastHour();
        Due.end("HoursTest");
    }

    private static void refused() {
        GrilleHotel h = new GrilleHotel();
        Due.is("8: hours(0)", h.hours(0), -1);
        Due.is("8: hours(-1)", h.hours(-1), -1);
        Due.is("8: hours(241)", h.hours(241), -1);
        Due.is("8: no hour went by", h.count(0), 0);
        Due.is("8: hours(240)", h.hours(240), 0);
        Due.is("8: count(0)", h.count(0), 240);
        Due.is("9: tried(0, 0)", h.tried(0, 0), -1);
        Due.is("9: tried(241, 0)", h.tried(241, 0), -1);
        for (int what : new int[] {-1, 4, 99, 124, 24, Integer.MIN_VALUE, Integer.MAX_VALUE}) {
            Due.is("9: what " + what, h.tried(1, what), -1);
        }
        for (int what : new int[] {0, 1, 2, 3, 100, 123}) {
            Due.is("9: what " + what, h.tried(240, what), 0);
        }
        Due.is("9: nothing is changed", h.count(0), 240);
    }

    private static void whoSends() {
        GrilleHotel h = new GrilleHotel();
        h.guest(0, 100);
        h.guest(1, 0);
        h.guest(2, 100);
        h.guest(3, 7);
        h.guest(23, 50);
        h.grille(2, false);
        h.guest(18, 100);
        Due.law(h, "c10(1=1);x(r=18)");
        Due.is("8: nothing comes out, as no d holds", h.hours(1), 0);
        int[] sins = {90, 0, 100, 0};
        for (int r = 0; r < 4; r++) {
            Due.is("8: sins of " + r, h.roomIs(r, 0), sins[r]);
        }
        Due.is("8: fog", h.roomIs(18, 0), 100);
        Due.is("8: from the top at once", h.roomIs(23, 0), 40);
        Due.is("8: the cowl", h.count(1), 10 + 7 + 10);
        h.hours(3);
        Due.is("8: sins of 3", h.roomIs(3, 0), 0);
        Due.is("8: the cowl", h.count(1), 27 + 60);
    }

    /** What an earlier room did counts for a later one in the same hour. */
    private static void inOrder() {
        GrilleHotel h = new GrilleHotel();
        h.guest(0, 100);
        h.guest(4, 100);
        h.guest(8, 0);
        Due.law(h, "c5(r=0);cw(r=4);d10(1=1)");
        Due.is("8: came out", h.hours(1), 5 + 5);
        Due.is("8: room 4 sent what it felt just then", h.roomIs(4, 0), 95);
        Due.is("8: felt", h.feels(8, 4), 5);
        Due.is("8: came out", h.hours(1), 5 + 10);
        Due.is("8: felt", h.feels(4, 0), 10);
        Due.is("8: felt", h.feels(8, 4), 15);
    }

    private static void settling() {
        GrilleHotel h = new GrilleHotel();
        h.guest(0, 100);
        h.guest(4, 0);
        Due.law(h, "c10(1=1);k4(p=4);k99(p=8);d10(p=4)");
        h.keep();
        Due.is("8: settles ahead of coming out", h.hours(1), 6);
        Due.is("8: grease", h.roomIs(4, 4), 4);
        h.undo();
        Due.law(h, "c10(1=1);k10(p=4);d10(p=4)");
        Due.is("8: nothing left", h.hours(1), 0);
        Due.is("8: grease", h.roomIs(4, 4), 10);
        Due.is("8: no draw then", h.count(6), 1);
        h.undo();
        Due.law(h, "c10(1=1);k4(p=4);k99(p=8)");
        Due.is("8: all settles", h.hours(1), 0);
        Due.is("8: grease", h.roomIs(4, 4), 4);
        Due.is("8: as much as is left", h.roomIs(8, 4), 6);
        Due.is("8: none at the top", h.count(1), 0);
        h.undo();
        h.grille(4, false);
        Due.law(h, "c10(1=1);k4(p=4);d10(1=1)");
        Due.is("8: a shut grille", h.hours(1), 0);
        Due.is("8: settles there all the same", h.roomIs(4, 4), 4);
        Due.is("8: the rest goes out", h.count(1), 6);
        Due.is("8: no draw", h.count(6), 1);
        h.undo();
        Due.register(h, "4!");
        Due.is("8: no guest there", h.hours(1), 0);
        Due.is("8: no draw", h.count(6), 1);
    }

    private static void draws() {
        GrilleHotel h = new GrilleHotel();
        h.guest(0, 9999);
        h.guest(4, 0);
        h.guest(8, 0);
        Due.law(h, "c1(1=1);d5(p=4);d10(p=8)");
        long x = 1;
        int here = 0;
        int there = 0;
        for (int i = 0; i < 200; i++) {
            x = (25173 * x + 13849) % 65536;
            if (x % 10 < 5) {
                here++;
            } else {
                there++;
                x = (25173 * x + 13849) % 65536;
            }
        }
        Due.is("8: all came out", h.hours(200), 200);
        Due.is("8: by draws here", h.feels(4, 0), here);
        Due.is("8: by draws there", h.feels(8, 0), there);
        Due.is("8: X", h.count(6), x);
        // A draw is made wherever it might come out, even where the law says never.
        h.seed(0);
        Due.law(h, "c1(1=1);d0(1=1)");
        h.hours(1);
        Due.is("8: two draws", h.count(6), (25173 * 13849L + 13849) % 65536);
    }

    private static void tried() {
        GrilleHotel h = new GrilleHotel();
        for (int r = 0; r < 24; r += 3) {
            h.guest(r, 500 + r);
            h.louvre(r, r % 3);
        }
        Due.law(h, "c20+r(1=1);k1+p%4(h%2=0);d3(1=1)");
        for (int n = 1; n <= 31; n += 10) {
            int[] whats = {0, 1, 2, 3, 100, 106, 121, 123};
            int[] before = counts(h);
            int[] answers = new int[whats.length];
            for (int i = 0; i < whats.length; i++) {
                answers[i] = h.tried(n, whats[i]);
            }
            for (int what = 0; what < 9; what++) {
                Due.is("9: nothing is changed, " + what, h.count(what), before[what]);
            }
            Due.is("9: as hours come", h.hours(n), answers[0]);
            Due.is("9: settled", h.count(8) - before[8], answers[1]);
            Due.is("9: at the top", h.count(1) - before[1], answers[2]);
            Due.is("9: sins", h.count(7), answers[3]);
            for (int i = 4; i < whats.length; i++) {
                Due.is("9: felt in " + (whats[i] - 100), h.roomIs(whats[i] - 100, 5), answers[i]);
            }
            Due.is("9: all is somewhere", before[7] - answers[3], answers[0] + answers[1] + answers[2]);
        }
    }

    private static int[] counts(GrilleHotel h) {
        int[] all = new int[9];
        for (int what = 0; what < 9; what++) {
            all[what] = h.count(what);
        }
        return all;
    }

    private static void smallAndLarge() {
        GrilleHotel h = new GrilleHotel();
        h.guest(1, 1);
        h.guest(2, 5000);
        Due.law(h, "c100(1=1);k100(p=6)");
        Due.is("8: 99 at most are sent up", h.tried(1, 3), 5000 - 99);
        Due.is("8: the last one is sent, too", h.tried(1, 2), 1);
        Due.is("9: 99 at most settle", h.tried(1, 1), 99);
        Due.is("9: in two hours", h.tried(2, 1), 198);
        Due.law(h, "c5(h=0)");
        Due.is("6: the hour modulo 24", h.tried(24, 2), 6);
        Due.is("6: the hour modulo 24", h.tried(25, 2), 11);
        Due.law(h, "c5(h=24)");
        Due.is("6: no hour 24", h.tried(49, 2), 0);
        h.guest(0, 8);
        h.guest(4, 0);
        h.seed(0);
        Due.law(h, "c1(r=0);d9(1=1)");
        Due.is("8: a draw of 9 is not below 9", h.hours(1), 0);
        h.seed(0);
        Due.law(h, "c1(r=0);d99(1=1)");
        Due.is("8: ten tenths at most, always", h.hours(1), 1);
    }

    private static void bounds() {
        GrilleHotel h = new GrilleHotel();
        Due.law(h, "c99(1=1);k99(p=4)");
        for (int i = 0; i < 11; i++) {
            h.guest(0, 9999);
            h.hours(102);
        }
        Due.is("8: grease at most", h.roomIs(4, 4), 99999);
        h.guest(0, 50);
        Due.is("9: settles all the same", h.tried(1, 1), 50);
        Due.is("9: and nothing goes out", h.tried(1, 2), 0);
        h = new GrilleHotel();
        Due.law(h, "c99(1=1)");
        for (int i = 0; i < 5; i++) {
            for (int r = 0; r < 24; r++) {
                h.guest(r, 9999);
            }
            Due.is("9: beyond what the cowl holds", h.tried(102, 2), 24 * 9999);
            h.hours(102);
        }
        Due.is("8: the cowl at most", h.count(1), 999999);
        h.guest(0, 7);
        Due.is("9: beyond", h.tried(1, 2), 7);
        Due.is("8: no rule of d", h.hours(1), 0);
        Due.is("8: the cowl at most", h.count(1), 999999);
    }

    private static void lastHour() {
        GrilleHotel h = new GrilleHotel();
        for (int i = 0; i < 416; i++) {
            h.hours(240);
        }
        h.hours(157);
        Due.is("8: hour", h.count(0), 99997);
        h.guest(0, 90);
        h.guest(4, 0);
        Due.law(h, "c10(1=1);d10(h>0)");
        Due.is("9: as many as can", h.tried(240, 0), 20);
        Due.is("8: as many as can", h.hours(3), 20);
        Due.is("8: hour", h.count(0), 99999);
        Due.is("8: none goes by", h.hours(1), 0);
        Due.is("9: none goes by", h.tried(1, 0), 0);
        Due.is("9: sins then", h.tried(1, 3), 70);
        Due.is("8: sins", h.roomIs(0, 0), 70);
        Due.is("28: keep", h.keep(), 99999);
    }
}
