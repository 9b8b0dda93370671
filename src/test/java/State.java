/** All that can be asked of a hotel, as a text: two hotels in the same state tell the same. */
final class State {
    private State() {
    }

    /**
     * It asks some two hundred times, checks the tape against the sins (so who wants to see its bytes gives the rooms
     * as many), and undoes at last: nothing is to be asked of that hotel behind it.
     */
    static String of(GrilleHotel hotel) {
        StringBuilder text = new StringBuilder("counts");
        counts(hotel, text);
        rooms(hotel, text);
        text.append(" tried");
        for (int what = 0; what <= 3; what++) {
            text.append(' ').append(hotel.tried(7, what));
        }
        text.append(" tape ").append(hotel.check(Math.min(24, hotel.count(5))));
        text.append(" undone ").append(hotel.undo());
        counts(hotel, text);
        return text.toString();
    }

    private static void counts(GrilleHotel hotel, StringBuilder text) {
        for (int what = 0; what <= 8; what++) {
            text.append(' ').append(hotel.count(what));
        }
    }

    private static void rooms(GrilleHotel hotel, StringBuilder text) {
        for (int r = 0; r < 24; r++) {
            text.append(" room ").append(r);
            for (int what : new int[] {0, 2, 3, 4, 5}) {
                text.append(' ').append(hotel.roomIs(r, what));
            }
            // Nothing from floor 5 comes out anywhere.
            int felt = hotel.roomIs(r, 5);
            for (int of = 0; of < 20 && felt > 0; of++) {
                text.append(" of ").append(hotel.feels(r, of));
            }
        }
    }

    static void same(String call, GrilleHotel hotel, GrilleHotel as) {
        String told = of(hotel);
        String due = of(as);
        Due.is(call + ": told is [" + told + "], due is [" + due + "], so the same state", told.equals(due), true);
    }
}
