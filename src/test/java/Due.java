/** What every test uses: it counts the answers that are not as due, and feeds texts to a hotel's tape. */
final class Due {
    private static int asked = 0;
    private static int wrong = 0;
    private static String under = "";

    private Due() {
    }

    /** What stands ahead of every call that is told from here on. */
    static void under(String words) {
        under = words;
    }

    static void is(String call, long got, long want) {
        asked++;
        if (got != want) {
            wrong++;
            System.out.println(under + call + " answered " + got + ", due is " + want);
        }
    }

    static void is(String call, boolean got, boolean want) {
        is(call, got ? 1 : 0, want ? 1 : 0);
    }

    static void end(String name) {
        System.out.println(name + ": " + asked + " answers, " + wrong + " not as due");
        if (wrong != 0 || asked == 0) {
            System.exit(1);
        }
    }

    /** Feeds as many words as the text needs; what is left of the last ones is filled with 'a'. */
    static int feed(GrilleHotel hotel, String text) {
        int[] bytes = new int[(text.length() + 19) / 20 * 20];
        for (int i = 0; i < bytes.length; i++) {
            bytes[i] = i < text.length() ? text.charAt(i) & 255 : 'a';
        }
        int answer = hotel.count(5);
        for (int i = 0; i < bytes.length; i += 20) {
            answer = hotel.feed(word(bytes, i), word(bytes, i + 4), word(bytes, i + 8), word(bytes, i + 12),
                word(bytes, i + 16));
        }
        return answer;
    }

    static int word(int[] bytes, int at) {
        return bytes[at] << 24 | bytes[at + 1] << 16 | bytes[at + 2] << 8 | bytes[at + 3];
    }

    /** Bytes as a text, for those calls whose tape holds numbers. */
    static String bytes(int... values) {
        StringBuilder text = new StringBuilder();
        for (int value : values) {
            text.append((char) value);
        }
        return text.toString();
    }

    /** A new hotel with a law (none if it is empty) and guests: a room, then the sins of its guest, and so on. */
    static GrilleHotel hotel(String law, int... guests) {
        GrilleHotel hotel = new GrilleHotel();
        for (int i = 0; i + 1 < guests.length; i += 2) {
            hotel.guest(guests[i], guests[i + 1]);
        }
        if (!law.isEmpty()) {
            is("the law " + law + " is taken", law(hotel, law) > 0, true);
        }
        return hotel;
    }

    static int law(GrilleHotel hotel, String text) {
        feed(hotel, text);
        return hotel.law(text.length());
    }

    static int register(GrilleHotel hotel, String text) {
        feed(hotel, text);
        return hotel.register(text.length());
    }

    static int taps(GrilleHotel hotel, String text, int what) {
        feed(hotel, text);
        return hotel.taps(text.length(), what);
    }

    static int tapped(GrilleHotel hotel, String text) {
        feed(hotel, text);
        return hotel.tapped(text.length());
    }

    static long sleep(GrilleHotel hotel, int rooms, int what, int... minds) {
        feed(hotel, bytes(minds));
        return hotel.sleep(minds.length, rooms, what);
    }

    static int linen(GrilleHotel hotel, int weeks, int what, int... to) {
        feed(hotel, bytes(to));
        return hotel.linen(to.length, weeks, what);
    }

    static int bits(int... rooms) {
        int bits = 0;
        for (int room : rooms) {
            bits |= 1 << room;
        }
        return bits;
    }

    static String times(String text, int n) {
        return text.repeat(n);
    }
}
