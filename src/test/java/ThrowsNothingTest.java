import java.lang.reflect.InvocationTargetException;
import java.lang.reflect.Method;
import java.util.Random;

/** No call may ever throw (LANGUAGE.md, rule 7): every method with arguments at, beside and far beyond all bounds. */
public final class ThrowsNothingTest {
    private static final int[] ARGUMENTS = {Integer.MIN_VALUE, Integer.MIN_VALUE + 1, Integer.MIN_VALUE + 100, -1000000, -101, -100,
        -24, -2, -1, 0, 1, 2, 3, 4, 5, 6, 7, 10, 11, 12, 19, 20, 21, 22, 23, 24, 25, 40, 41, 60, 61, 99, 100, 101, 102, 119, 120, 121,
        122, 123, 124, 239, 240, 241, 260, 261, 9999, 10000, 65535, 65536, 99999, 100000, 999999, 1000000, 1000001, 0xFFFFFF,
        0x1000000, 0x63353E72, 0x353D313B, 0x782E782E, Integer.MAX_VALUE - 100, Integer.MAX_VALUE - 1, Integer.MAX_VALUE};

    public static void main(String[] args) throws IllegalAccessException {
        Random random = new Random(7);
        for (int round = 0; round < 400; round++) {
            GrilleHotel hotel = round % 2 == 0 ? new GrilleHotel() : busy(random);
            for (Method method : GrilleHotel.class.getDeclaredMethods()) {
                for (int i = 0; i < 14 && java.lang.reflect.Modifier.isPublic(method.getModifiers()); i++) {
                    call(hotel, method, random);
                }
            }
        }
        Due.end("ThrowsNothingTest");
    }

    /** Guests all over, a law that divides by what may be 0, and something on the tape. */
    private static GrilleHotel busy(Random random) {
        GrilleHotel hotel = Due.hotel("cs/[r-3](1=1);k9%g(a>1|w/g=0);d5(p>9);x(r%5=h)");
        for (int r = 0; r < 24; r++) {
            hotel.guest(r, random.nextInt(10000));
            hotel.louvre(r, random.nextInt(3));
        }
        Due.feed(hotel, "x.x..5=7;c5(1=1)@[!" + (char) random.nextInt(256));
        return hotel;
    }

    private static void call(GrilleHotel hotel, Method method, Random random) throws IllegalAccessException {
        Class<?>[] types = method.getParameterTypes();
        Object[] arguments = new Object[types.length];
        StringBuilder told = new StringBuilder(method.getName());
        for (int i = 0; i < types.length; i++) {
            boolean isInt = types[i] == int.class;
            arguments[i] = isInt ? (Object) ARGUMENTS[random.nextInt(ARGUMENTS.length)] : (Object) random.nextBoolean();
            told.append(' ').append(arguments[i]);
        }
        boolean isThrown = false;
        try {
            method.invoke(hotel, arguments);
        } catch (InvocationTargetException e) {
            isThrown = true;
            told.append(": ").append(e.getCause());
        }
        Due.is(told.toString(), isThrown, false);
    }
}
