import java.util.ArrayList;
import java.util.List;
import java.util.function.Consumer;

/** What a refused call leaves as it was, what calls that only ask leave, and that no hotel is in another's way. */
final class RefusedEdges {
    private static final int[] ROOMS = {-1, 24, Integer.MIN_VALUE, Integer.MAX_VALUE};

    private RefusedEdges() {
    }

    static void all() {
        refusedSettings();
        refusedByTheTape();
        refusedQuestions();
        feedRefused();
        undoRefused();
        faultsChangeNothing();
        questionsChangeNothing();
        memoryOfItsOwn();
        lastCall();
    }

    /** Every kind of thing is otherwise than in a new hotel; the tape has the sins of the first twenty rooms. */
    private static GrilleHotel busy() {
        GrilleHotel h = Due.hotel("c4(r<3);k1(p=8);d6(1=1)", 0, 30, 1, 40, 2, 50, 4, 0, 5, 0, 6, 0, 23, 9);
        h.grille(6, false);
        h.louvre(2, 0);
        h.hours(2);
        h.keep();
        h.hours(1);
        h.louvre(3, 0);
        h.grille(7, false);
        h.seed(777);
        h.feed(18 << 24 | 28 << 16 | 38 << 8, 0, 0, 0, 0);
        return h;
    }

    /** Does all of it in a busy hotel, which is then as one without it. */
    private static void leaves(String call, Consumer<GrilleHotel> calls) {
        GrilleHotel h = busy();
        calls.accept(h);
        State.same(call, h, busy());
    }

    private static void refusedSettings() {
        Doc.says(2, "A call that is refused (NONE, false) changes nothing but the tape, where it is told.");
        Due.is("the tape is as the sins are", busy().check(20), -1);
        leaves("guest", h -> {
            for (int r : ROOMS) {
                Due.is("guest(" + r + ", 5)", h.guest(r, 5), false);
            }
            for (int sins : new int[] {-1, 10000, Integer.MIN_VALUE, Integer.MAX_VALUE}) {
                Due.is("guest(4, " + sins + ")", h.guest(4, sins), false);
                Due.is("guest(9, " + sins + ")", h.guest(9, sins), false);
            }
        });
        leaves("grille", h -> {
            for (int r : ROOMS) {
                Due.is("grille(" + r + ")", h.grille(r, false), false);
                Due.is("grille(" + r + ")", h.grille(r, true), false);
            }
        });
        leaves("louvre", h -> {
            for (int r : ROOMS) {
                Due.is("louvre(" + r + ", 0)", h.louvre(r, 0), false);
            }
            for (int set : new int[] {-1, 3, Integer.MIN_VALUE, Integer.MAX_VALUE}) {
                Due.is("louvre(2, " + set + ")", h.louvre(2, set), false);
            }
        });
        leaves("seed", h -> {
            for (int x : new int[] {-1, 65536, Integer.MIN_VALUE, Integer.MAX_VALUE}) {
                Due.is("seed(" + x + ")", h.seed(x), false);
            }
        });
        leaves("hours", h -> {
            for (int n : new int[] {-1, 0, 241, Integer.MIN_VALUE, Integer.MAX_VALUE}) {
                Due.is("hours(" + n + ")", h.hours(n), -1);
                Due.is("tried(" + n + ", 0)", h.tried(n, 0), -1);
            }
        });
    }

    private static void refusedByTheTape() {
        Doc.says(6, "A call that is refused (NONE, false) changes nothing but the tape, where it is told.");
        leaves("law", h -> each(new int[] {-1, 0, 21, 240, 241}, n -> h.law(n), -1));
        leaves("register", h -> each(new int[] {-1, 0, 21, 120, 121}, n -> h.register(n), -1));
        leaves("tapped", h -> each(new int[] {-1, 0, 21, 40, 41}, n -> h.tapped(n), -1));
        leaves("taps", h -> each(new int[] {-1, 0, 21, 60, 61}, n -> h.taps(n, 100), -1));
        leaves("taps' what", h -> each(new int[] {-1, 20, 99, 101}, what -> h.taps(3, what), -1));
        leaves("sleep", h -> each(new int[] {-1, 0, 7}, n -> (int) h.sleep(n, 7, 100), -1));
        leaves("sleep's rooms", h -> each(new int[] {-1, 0, 1, 7, 1 << 24 | 1}, rooms -> (int) h.sleep(2, rooms, 100), -1));
        leaves("sleep's what", h -> each(new int[] {-1, 2, 99, 101}, what -> (int) h.sleep(2, 3, what), -1));
        leaves("linen", h -> each(new int[] {-1, 0, 21, 25}, n -> h.linen(n, 0, 100), -1));
        leaves("linen's weeks", h -> each(new int[] {-1, 1000001}, weeks -> h.linen(2, weeks, 100), -1));
        leaves("linen's what", h -> each(new int[] {-1, 2, 99, 102}, what -> h.linen(2, 0, what), -1));
        leaves("check", h -> each(new int[] {-1, 21, 24, 25}, n -> h.check(n), -2));
    }

    private interface Asked {
        int of(int argument);
    }

    private static void each(int[] arguments, Asked asked, int due) {
        for (int argument : arguments) {
            Due.is("with " + argument, asked.of(argument), due);
        }
        Due.is("with the least", asked.of(Integer.MIN_VALUE), due);
        Due.is("with the greatest", asked.of(Integer.MAX_VALUE), due);
    }

    private static void refusedQuestions() {
        Doc.says(10, "A call that is refused (NONE, false) changes nothing but the tape, where it is told.");
        int[] beyond = {-1, 24};
        leaves("of no such room", h -> {
            each(beyond, r -> h.roomIs(r, 0), -1);
            each(beyond, r -> h.feels(r, 0), -1);
            each(beyond, r -> h.way(r, 0), -1);
            each(beyond, r -> h.odds(r, 24, 3, 0), -1);
            each(beyond, r -> h.fromWhere(r), -1);
            each(beyond, r -> h.meet(r, 0), -1);
            each(beyond, r -> h.turn(r, 23, 100), -1);
            each(beyond, r -> h.ways(r, 23), -1);
            each(beyond, r -> h.ropes(r, 0, 0), -1);
            each(beyond, r -> h.breakfast(r), -1);
        });
        leaves("of no such what", h -> {
            each(new int[] {-1, 8}, what -> h.roomIs(0, what), -1);
            each(new int[] {-1, 9}, what -> h.count(what), -1);
            each(new int[] {-1, 2}, what -> h.dust(what), -1);
            each(new int[] {-1, 2}, what -> h.stockings(1, what), -1);
            each(new int[] {-1, 4, 99, 124}, what -> h.tried(1, what), -1);
            each(new int[] {-1, 5, 99, 101}, what -> h.turn(0, 20, what), -1);
            each(new int[] {-1, 2}, what -> h.ropes(0, 0, what), -1);
            each(new int[] {-1, 2}, what -> h.odds(0, 4, 3, what), -1);
        });
    }

    private static void feedRefused() {
        Doc.says(5, "NONE if that would be more than 260.");
        GrilleHotel h = Due.hotel("", 0, 1, 1, 2, 2, 3, 3, 4);
        h.feed(0x01020304, 0, 0, 0, 0);
        for (int i = 1; i < 13; i++) {
            h.feed(0, 0, 0, 0, 0);
        }
        for (int i = 0; i < 3; i++) {
            Due.is("one more", h.feed(-1, -1, -1, -1, -1), -1);
            Due.is("the tape stays", h.count(5), 260);
        }
        Due.is("as it was", h.check(24), -1);
    }

    private static void undoRefused() {
        Doc.says(29, "A call that is refused (NONE, false) changes nothing but the tape, where it is told.");
        GrilleHotel h = Due.hotel("c4(1=1)", 0, 30);
        h.hours(1);
        h.feed(26 << 24, 0, 0, 0, 0);
        Due.is("undo", h.undo(), false);
        GrilleHotel as = Due.hotel("c4(1=1)", 0, 30);
        as.hours(1);
        as.feed(26 << 24, 0, 0, 0, 0);
        State.same("undo", h, as);
    }

    /** A fault, and what is not NONE but can't be either: the tape is empty then, and all else is as it was. */
    private static void emptiesTheTapeAlone(String call, Consumer<GrilleHotel> calls) {
        GrilleHotel h = busy();
        h.check(0);
        calls.accept(h);
        Due.is(call + ": the tape is empty", h.count(5), 0);
        GrilleHotel as = busy();
        as.check(0);
        State.same(call, h, as);
    }

    private static void faultsChangeNothing() {
        Doc.says(6, "a FAULT: -1000 times its number, less its place (the one before stays)");
        emptiesTheTapeAlone("law", h -> Due.is("law", Due.law(h, "c9(1=1);x(1=1"), -1013));
        Doc.says(7, "Nothing is done by a REGISTER with a FAULT.");
        emptiesTheTapeAlone("register", h -> Due.is("register", Due.register(h, "0!;5s;23@7;3!"), -7012));
        Doc.says(23, "a FAULT; -4: no such place");
        emptiesTheTapeAlone("taps", h -> Due.is("taps", Due.taps(h, "x.x.", 0), -1004));
        emptiesTheTapeAlone("taps' place", h -> Due.is("taps", Due.taps(h, "x.x", 1), -4));
        Doc.says(24, "taps and dots; a FAULT");
        emptiesTheTapeAlone("tapped", h -> Due.is("tapped", Due.tapped(h, "Aa"), -1001));
        Doc.says(25, "-2: not each ROOM just once");
        emptiesTheTapeAlone("linen", h -> Due.is("linen", Due.linen(h, 1, 0, 1, 1), -2));
        Doc.says(30, "NONE: right; else the first that is not so");
        emptiesTheTapeAlone("check", h -> {
            Due.feed(h, Due.bytes(255));
            Due.is("check", h.check(1), 0);
        });
    }

    private static void questionsChangeNothing() {
        Doc.says(9, "(nothing is changed)");
        List<Consumer<GrilleHotel>> questions = new ArrayList<>();
        questions.add(h -> h.tried(240, 0));
        questions.add(h -> h.tried(240, 123));
        for (int r = 0; r < 24; r += 5) {
            int room = r;
            questions.add(h -> h.roomIs(room, 7));
            questions.add(h -> h.feels(room, 0));
            questions.add(h -> h.way(room, 3));
            questions.add(h -> h.odds(room, 24, 3, 1));
            questions.add(h -> h.fromWhere(room));
            questions.add(h -> h.meet(room, 0));
            questions.add(h -> h.turn(0, room, 0));
            questions.add(h -> h.ways(0, room));
            questions.add(h -> h.ropes(room, 0, 1));
            questions.add(h -> h.breakfast(room));
        }
        questions.add(h -> h.breakfast(100));
        questions.add(h -> h.cowls());
        questions.add(h -> h.stockings(0xFFFFFF, 1));
        questions.add(h -> h.dust(0));
        questions.add(h -> h.dust(1));
        questions.add(h -> h.count(5));
        for (int i = 0; i < questions.size(); i++) {
            leaves("question " + i, questions.get(i));
        }
        emptiesTheTapeAlone("sleep", h -> Due.sleep(h, 7, 100, 3, 2, 1));
        emptiesTheTapeAlone("linen", h -> Due.linen(h, 7, 100, 2, 1, 0));
        emptiesTheTapeAlone("taps", h -> Due.taps(h, "x.x", 0));
        emptiesTheTapeAlone("tapped", h -> Due.tapped(h, "ABC"));
    }

    private static void memoryOfItsOwn() {
        Doc.says(1, "All memory is the shaft's own.");
        GrilleHotel h = new GrilleHotel();
        GrilleHotel other = busy();
        other.hours(5);
        State.same("a new one beside a busy one", h, new GrilleHotel());
        GrilleHotel one = busy();
        GrilleHotel two = busy();
        two.check(0);
        Due.register(two, "0!;1!;23s;23<");
        two.keep();
        Due.law(two, "x(1=1)");
        State.same("a busy one beside another one that changes", one, busy());
    }

    private static void lastCall() {
        Doc.says(2, "An object is used for at most 512 calls after it has been made");
        GrilleHotel h = new GrilleHotel();
        for (int i = 0; i < 509; i++) {
            h.guest(i % 24, i);
        }
        Due.is("the 510th", h.guest(0, 509), true);
        Due.is("the 511th", h.roomIs(0, 0), 509);
        Due.is("the 512th", h.guest(23, 9999), true);
    }
}
