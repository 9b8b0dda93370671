import java.util.Random;

/** Long runs of calls by numbers of a fixed seed, each answer set against the model's. */
public final class ModelTest {
    private final Random random;
    private final GrilleHotel hotel = new GrilleHotel();
    private final Model model = new Model();
    private final String run;
    private int asked = 0;

    private ModelTest(int seed) {
        random = new Random(seed);
        run = "run " + seed + ": ";
    }

    public static void main(String[] args) {
        int runs = args.length > 0 ? Integer.parseInt(args[0]) : 400;
        for (int seed = 0; seed < runs; seed++) {
            new ModelTest(seed).go();
        }
        Due.end("ModelTest");
    }

    private void go() {
        int style = random.nextInt(4);
        if (style > 0) {
            fill(style == 3);
        }
        // An object is promised for 512 calls; a text takes some twenty.
        for (int calls = 0; calls < 300 && asked < 480; calls++) {
            call();
        }
    }

    /** Guests, louvres and a law, so that much goes on. */
    private void fill(boolean isFull) {
        for (int r = 0; r < 24; r++) {
            if (isFull || random.nextInt(3) > 0) {
                int sins = random.nextInt(4) == 0 ? 9999 : random.nextInt(3000);
                is("guest", hotel.guest(r, sins), model.guest(r, sins));
            }
            int set = random.nextInt(3);
            is("louvre", hotel.louvre(r, set), model.louvre(r, set));
        }
        text("c" + (1 + random.nextInt(99)) + "(1=1);k" + random.nextInt(9) + "(p%3=h%3);d" + random.nextInt(6) + "(a>0)",
            240);
        is("law", hotel.law(tapeSize(240)), model.law(tapeSize(240)));
    }

    private int textSize;

    private int tapeSize(int most) {
        return Math.min(textSize, most);
    }

    private void is(String call, long got, long want) {
        asked++;
        Due.is(run + call, got, want);
    }

    private void is(String call, boolean got, boolean want) {
        asked++;
        Due.is(run + call, got, want);
    }

    private int room() {
        int kind = random.nextInt(40);
        return kind == 0 ? 24 : kind == 1 ? -1 : kind == 2 ? random.nextInt() : random.nextInt(24);
    }

    private int some(int least, int most) {
        int kind = random.nextInt(40);
        if (kind == 0) {
            return least - 1;
        }
        if (kind == 1) {
            return most + 1;
        }
        return kind == 2 ? least : kind == 3 ? most : least + random.nextInt(most - least + 1);
    }

    private void text(String text, int most) {
        textSize = Math.min(text.length(), most);
        for (int i = 0; i < textSize; i += 20) {
            int[] words = new int[5];
            for (int k = 0; k < 20; k++) {
                int sign = i + k < text.length() ? text.charAt(i + k) & 255 : 'a';
                words[k / 4] = words[k / 4] << 8 | sign;
            }
            is("feed", hotel.feed(words[0], words[1], words[2], words[3], words[4]), model.feed(words));
        }
    }

    private void empty() {
        is("check(0)", hotel.check(0), model.check(0));
    }

    private String spoilt(String text, String signs) {
        if (random.nextInt(3) > 0 || text.isEmpty()) {
            return text;
        }
        int at = random.nextInt(text.length());
        switch (random.nextInt(4)) {
            case 0:
                return text.substring(0, at);
            case 1:
                return text.substring(0, at) + text.substring(at + 1);
            case 2:
                return text.substring(0, at) + signs.charAt(random.nextInt(signs.length())) + text.substring(at);
            default:
                return text.substring(0, at) + (char) random.nextInt(256) + text.substring(at + 1);
        }
    }

    private String amount(int depth) {
        StringBuilder text = new StringBuilder(term(depth));
        while (random.nextInt(3) == 0) {
            text.append("+-".charAt(random.nextInt(2))).append(term(depth));
        }
        return text.toString();
    }

    private String term(int depth) {
        StringBuilder text = new StringBuilder(factor(depth));
        while (random.nextInt(3) == 0) {
            text.append("*/%".charAt(random.nextInt(3))).append(factor(depth));
        }
        return text.toString();
    }

    private String factor(int depth) {
        int kind = random.nextInt(7);
        if (kind == 0 && depth > 0) {
            return "[" + amount(depth - 1) + "]";
        }
        if (kind < 3) {
            return "" + random.nextInt(random.nextInt(5) == 0 ? 100000 : 12);
        }
        return "" + "rspfwgah".charAt(random.nextInt(8));
    }

    private String condition(int depth) {
        StringBuilder text = new StringBuilder(part(depth));
        while (random.nextInt(3) == 0) {
            text.append("|").append(part(depth));
        }
        return text.toString();
    }

    private String part(int depth) {
        StringBuilder text = new StringBuilder(test(depth));
        while (random.nextInt(4) == 0) {
            text.append("&").append(test(depth));
        }
        return text.toString();
    }

    private String test(int depth) {
        int kind = random.nextInt(5);
        if (kind == 0 && depth > 0) {
            return "!" + test(depth - 1);
        }
        if (kind == 1 && depth > 0) {
            return "(" + condition(depth - 1) + ")";
        }
        if (random.nextInt(5) == 0) {
            return "1=1";
        }
        return amount(depth) + "<>=".charAt(random.nextInt(3)) + amount(depth);
    }

    private String lawText() {
        int rules = random.nextInt(20) == 0 ? 17 : 1 + random.nextInt(6);
        int depth = rules == 17 ? 0 : random.nextInt(8);
        StringBuilder text = new StringBuilder();
        for (int i = 0; i < rules; i++) {
            text.append(i == 0 ? "" : ";");
            char kind = "ckdx".charAt(random.nextInt(random.nextInt(4) == 0 ? 4 : 3));
            if (rules == 17) {
                text.append(kind).append(kind == 'x' ? "(r=1)" : "5(r=r)");
            } else {
                text.append(kind).append(kind == 'x' ? "" : amount(depth)).append("(").append(condition(depth)).append(")");
            }
        }
        return text.length() > 240 ? "c" + random.nextInt(100) + "(1=1)" : text.toString();
    }

    private String registerText() {
        int lines = random.nextInt(15) == 0 ? 18 + random.nextInt(5) : 1 + random.nextInt(6);
        StringBuilder text = new StringBuilder();
        for (int i = 0; i < lines; i++) {
            text.append(i == 0 ? "" : ";").append(random.nextInt(random.nextInt(20) == 0 ? 130 : 24));
            switch (random.nextInt(5)) {
                case 0:
                    text.append("=").append(random.nextInt(random.nextInt(9) == 0 ? 20000 : 10000));
                    break;
                case 1:
                    text.append("@").append(random.nextInt(random.nextInt(20) == 0 ? 130 : 24));
                    break;
                case 2:
                    text.append(random.nextInt(3) == 0 ? "!" : "=50");
                    break;
                default:
                    text.append("os<|>".charAt(random.nextInt(5)));
            }
        }
        return text.toString();
    }

    private String tapsText() {
        StringBuilder text = new StringBuilder();
        int letters = 1 + random.nextInt(6);
        for (int i = 0; i < letters; i++) {
            text.append(i == 0 ? "" : "..").append("x".repeat(1 + random.nextInt(5))).append(".")
                .append("x".repeat(1 + random.nextInt(5)));
        }
        return text.toString();
    }

    private String linenText(int n) {
        StringBuilder left = new StringBuilder();
        for (int i = 0; i < n; i++) {
            left.append((char) i);
        }
        StringBuilder text = new StringBuilder();
        while (left.length() > 0) {
            int at = random.nextInt(left.length());
            text.append(left.charAt(at));
            left.deleteCharAt(at);
        }
        return spoilt(text.toString(), "\0\1\2\3\4");
    }

    private void call() {
        switch (random.nextInt(8)) {
            case 0:
                change();
                break;
            case 1:
                pass();
                break;
            case 2:
            case 3:
                byTape();
                break;
            case 4:
            case 5:
                askWays();
                break;
            default:
                askRooms();
        }
    }

    private void change() {
        int r = room();
        switch (random.nextInt(9)) {
            case 0:
            case 1:
                int sins = some(0, 9999);
                is("guest(" + r + "," + sins + ")", hotel.guest(r, sins), model.guest(r, sins));
                break;
            case 2:
            case 3:
                boolean open = random.nextInt(4) > 0;
                is("grille", hotel.grille(r, open), model.grille(r, open));
                break;
            case 4:
            case 5:
                int set = some(0, 2);
                is("louvre", hotel.louvre(r, set), model.louvre(r, set));
                break;
            case 6:
                int x = some(0, 65535);
                is("seed", hotel.seed(x), model.seed(x));
                break;
            case 7:
                if (random.nextInt(4) == 0) {
                    is("keep", hotel.keep(), model.keep());
                }
                break;
            default:
                if (random.nextInt(4) == 0) {
                    is("undo", hotel.undo(), model.undo());
                }
        }
    }

    private void pass() {
        int n = random.nextInt(3) == 0 ? some(1, 240) : 1 + random.nextInt(5);
        if (random.nextInt(2) == 0) {
            is("hours(" + n + ")", hotel.hours(n), model.hours(n));
        } else {
            int what = random.nextInt(2) == 0 ? some(0, 3) : some(100, 123);
            is("tried(" + n + "," + what + ")", hotel.tried(n, what), model.tried(n, what));
        }
    }

    private void byTape() {
        if (random.nextInt(5) > 0) {
            empty();
        }
        int off = random.nextInt(30) == 0 ? random.nextInt(300) - 20 : 0;
        switch (random.nextInt(8)) {
            case 0:
            case 1:
                String law = spoilt(lawText(), "()[]!&|<>=+-*/%;0123456789rspfwgahckdx");
                text(law, 240);
                is("law " + law, hotel.law(textSize + off), model.law(textSize + off));
                break;
            case 2:
                String register = spoilt(registerText(), "0123456789=!os<|>@;");
                text(register, 120);
                is("register " + register, hotel.register(textSize + off), model.register(textSize + off));
                break;
            case 3:
                String taps = spoilt(tapsText(), "x.x.x. a");
                text(taps, 60);
                int place = random.nextInt(2) == 0 ? 100 : random.nextInt(22) - 1;
                is("taps " + taps, hotel.taps(textSize + off, place), model.taps(textSize + off, place));
                break;
            case 4:
                StringBuilder letters = new StringBuilder();
                for (int i = random.nextInt(41); i > 0; i--) {
                    letters.append((char) ('A' + random.nextInt(26)));
                }
                text(spoilt(letters.toString(), "@[ak"), 40);
                is("tapped", hotel.tapped(textSize + off), model.tapped(textSize + off));
                break;
            case 5:
                int n = some(1, 24);
                text(linenText(Math.max(0, n)), 260);
                int weeks = random.nextInt(2) == 0 ? some(0, 1000000) : random.nextInt(30);
                int what = random.nextInt(3) == 0 ? 100 + random.nextInt(3) : some(0, n - 1 < 0 ? 0 : n - 1);
                is("linen", hotel.linen(n + off, weeks, what), model.linen(n + off, weeks, what));
                break;
            case 6:
                askSleep(off);
                break;
            default:
                askCheck();
        }
    }

    private void askSleep(int off) {
        int n = some(1, 6);
        StringBuilder minds = new StringBuilder();
        for (int i = 0; i < n; i++) {
            minds.append((char) random.nextInt(random.nextInt(2) == 0 ? 3 : 256));
        }
        text(minds.toString(), 260);
        int rooms = 0;
        for (int i = 0; i < 100 && Integer.bitCount(rooms) < n; i++) {
            rooms |= 1 << random.nextInt(random.nextInt(90) == 0 ? 32 : 24);
        }
        int what = random.nextInt(2) == 0 ? 100 : some(0, Math.max(0, n - 1));
        is("sleep", hotel.sleep(n + off, rooms, what), model.sleep(n + off, rooms, what));
    }

    private void askCheck() {
        int n = some(0, 24);
        StringBuilder bytes = new StringBuilder();
        for (int r = 0; r < n; r++) {
            int sins = r < 24 ? model.roomIs(r, 0) : 0;
            bytes.append((char) (random.nextInt(60) == 0 ? random.nextInt(256) : Math.max(0, sins) % 256));
        }
        text(bytes.toString(), 260);
        is("check", hotel.check(n), model.check(n));
    }

    private void askWays() {
        int r = room();
        int q = room();
        switch (random.nextInt(8)) {
            case 0:
                int i = some(0, 6);
                is("way(" + r + "," + i + ")", hotel.way(r, i), model.way(r, i));
                break;
            case 1:
                int to = random.nextInt(3) == 0 ? 24 : q;
                int tenths = some(0, 10);
                int what = some(0, 1);
                is("odds(" + r + "," + to + "," + tenths, hotel.odds(r, to, tenths, what), model.odds(r, to, tenths, what));
                break;
            case 2:
                is("fromWhere(" + r + ")", hotel.fromWhere(r), model.fromWhere(r));
                break;
            case 3:
                is("meet(" + r + "," + q + ")", hotel.meet(r, q), model.meet(r, q));
                break;
            case 4:
                is("cowls", hotel.cowls(), model.cowls());
                break;
            case 5:
                int floor = random.nextInt(2) == 0 ? 100 : some(0, 4);
                is("turn(" + r + "," + q + "," + floor, hotel.turn(r, q, floor), model.turn(r, q, floor));
                break;
            case 6:
                is("ways(" + r + "," + q + ")", hotel.ways(r, q), model.ways(r, q));
                break;
            default:
                int rooms = random.nextInt(30) == 0 ? random.nextInt() : random.nextInt(1 << 24);
                int asked = some(0, 1);
                is("stockings(" + rooms, hotel.stockings(rooms, asked), model.stockings(rooms, asked));
        }
    }

    private void askRooms() {
        int r = room();
        switch (random.nextInt(7)) {
            case 0:
            case 1:
                int what = some(0, 7);
                is("roomIs(" + r + "," + what + ")", hotel.roomIs(r, what), model.roomIs(r, what));
                break;
            case 2:
                int of = room();
                is("feels(" + r + "," + of + ")", hotel.feels(r, of), model.feels(r, of));
                break;
            case 3:
                int asked = random.nextInt(2) == 0 ? 100 : r;
                is("breakfast(" + asked + ")", hotel.breakfast(asked), model.breakfast(asked));
                break;
            case 4:
                int most = model.roomIs(random.nextInt(24), 4);
                int bound = random.nextInt(3) == 0 ? some(0, 99999) : most;
                int kind = some(0, 1);
                is("ropes(" + r + "," + bound + "," + kind, hotel.ropes(r, bound, kind), model.ropes(r, bound, kind));
                break;
            case 5:
                int dust = some(0, 1);
                is("dust(" + dust + ")", hotel.dust(dust), model.dust(dust));
                break;
            default:
                int count = some(0, 8);
                is("count(" + count + ")", hotel.count(count), model.count(count));
        }
    }
}
