import java.util.Random;

/** Laws, registers and taps that grow sign by sign, whole, broken off and spoilt: their faults are the recogniser's. */
public final class FaultsTest {
    private static final String[] LAW = {"c", "k", "d", "x", "(", "(", ")", "[", "[", "]", "!", "!", "&", "|", "<", ">", "=", "+", "-",
        "*", "/", "%", ";", "1", "23", "99999", "123456", "r", "s", "p", "f", "w", "g", "a", "h"};
    private static final String[] REGISTER = {"0", "1", "2", "3", "9", "12", "23", "24", "=", "!", "o", "s", "<", "|", ">", "@", ";", ";"};
    private static final String[] TAPS = {"x", "x", "xx", "xxxxx", ".", "."};

    private final Random random = new Random(11);
    private final int[] seen = new int[8];
    private GrilleHotel hotel = new GrilleHotel();
    private int asked = 0;

    public static void main(String[] args) {
        int rounds = args.length > 0 ? Integer.parseInt(args[0]) : 3000;
        FaultsTest test = new FaultsTest();
        for (int round = 0; round < rounds; round++) {
            test.laws();
            test.registers();
            test.taps();
        }
        for (int number : new int[] {0, 1, 2, 3, 4, 5, 7}) {
            Due.is("fault " + number + " (0: none) comes often enough to be tried", test.seen[number] > 100, true);
        }
        Due.end("FaultsTest");
    }

    /** An object is promised for 512 calls; a text takes fourteen at most. */
    private void is(String call, int got, int due) {
        Due.is(call, got, due);
        seen[due < 0 ? -due / 1000 : 0]++;
        asked++;
        if (asked % 30 == 0) {
            hotel = new GrilleHotel();
        }
    }

    private void laws() {
        String ahead = random.nextInt(4) == 0 ? rules(14 + random.nextInt(3)) + ";" : "";
        String grown = grow(ahead, LAW, ahead.length() + random.nextInt(60), Recogniser::law);
        String whole = wholeLaw(grown);
        for (String text : new String[] {grown, whole, spoilt(whole, LAW), deeper(whole), whole + ";k" + random.nextInt(9)}) {
            if (!text.isEmpty() && text.length() <= 240) {
                is("law " + text, Due.law(hotel, text), Recogniser.law(text));
            }
        }
    }

    private String rules(int number) {
        StringBuilder text = new StringBuilder();
        for (int i = 0; i < number; i++) {
            text.append(i == 0 ? "" : ";").append(random.nextBoolean() ? "x(1=1)" : "k1(r=p)");
        }
        return text.toString();
    }

    private interface Asked {
        int of(String text);
    }

    /** Pieces are put behind one another as long as more could make a whole text of them. */
    private String grow(String ahead, String[] pieces, int length, Asked asked) {
        StringBuilder text = new StringBuilder(ahead);
        for (int i = 0; i < 500 && text.length() < length; i++) {
            String piece = pieces[random.nextInt(pieces.length)];
            String more = text + piece;
            if (Recogniser.mayGoOn(more, asked.of(more))) {
                text.append(piece);
            }
        }
        return text.toString();
    }

    /** What is open is closed by the first sign that can stand there. */
    private String wholeLaw(String grown) {
        StringBuilder text = new StringBuilder(grown);
        for (int i = 0; i < 100 && Recogniser.law(text.toString()) < 0; i++) {
            for (String sign : new String[] {")", "]", "=", "c", "1", "("}) {
                String more = text + sign;
                if (Recogniser.mayGoOn(more, Recogniser.law(more))) {
                    text.append(sign);
                    break;
                }
            }
        }
        return text.toString();
    }

    private String spoilt(String text, String[] pieces) {
        int at = random.nextInt(text.length() + 1);
        String piece = random.nextInt(4) == 0 ? "" + (char) random.nextInt(256) : pieces[random.nextInt(pieces.length)];
        int left = Math.min(text.length(), at + random.nextInt(3));
        return text.substring(0, at) + piece + text.substring(left);
    }

    /** Some more are opened where one is: as a sign that can stand there, but may be one too many. */
    private String deeper(String text) {
        int at = random.nextInt(text.length() + 1);
        while (at < text.length() && "([!".indexOf(text.charAt(at)) < 0) {
            at++;
        }
        String sign = at < text.length() ? text.substring(at, at + 1) : "";
        return text.substring(0, at) + sign.repeat(1 + random.nextInt(4)) + text.substring(at);
    }

    private void registers() {
        int guests = hotel.count(2);
        String grown = grow("", REGISTER, 1 + random.nextInt(80), text -> Recogniser.register(text, guests));
        register(grown);
        register(spoilt(grown, REGISTER));
    }

    private void register(String text) {
        if (!text.isEmpty() && text.length() <= 120) {
            int due = Recogniser.register(text, hotel.count(2));
            is("register " + text, Due.register(hotel, text), due);
        }
    }

    private void taps() {
        String grown = grow("", TAPS, 1 + random.nextInt(50), Recogniser::taps);
        for (String text : new String[] {grown, spoilt(grown, TAPS)}) {
            if (!text.isEmpty() && text.length() <= 60) {
                is("taps " + text, Due.taps(hotel, text, 100), Recogniser.taps(text));
            }
        }
    }
}
