import java.util.Arrays;

/** A hotel whose rooms open by grilles into one shaft; the document's numbered promises say what each call answers. */
public final class GrilleHotel {
    public static final int NONE = -1;

    private static final int NOTHING = -2;
    private static final int NO_PLACE = -4;
    private static final int IN_ALL = 100;
    private static final int ROUNDS = 101;

    private static final int COLUMNS = 4;
    private static final int TOP_FLOOR = 5;
    private static final int ROOMS = 24;
    private static final int COWL = 24;
    private static final int ALL_ROOMS = (1 << ROOMS) - 1;

    private static final int LEFT = 0;
    private static final int STRAIGHT = 1;
    private static final int RIGHT = 2;

    private static final int MOST_SINS = 9999;
    private static final int MOST_FELT = 99999;
    private static final int MOST_GREASE = 99999;
    private static final int MOST_COWL = 999999;
    private static final int MOST_HOUR = 99999;
    private static final int MOST_HOURS_A_CALL = 240;
    private static final int MOST_SENT = 99;
    private static final int TENTHS = 10;
    private static final int MOST_SEED = 65535;
    private static final int MOST_WEEKS = 1000000;

    private static final int MOST_TAPE = 260;
    private static final int BYTES_FED = 20;
    private static final int MOST_LAW_TEXT = 240;
    private static final int MOST_REGISTER_TEXT = 120;
    private static final int MOST_TAPS_TEXT = 60;
    private static final int MOST_LETTERS_TEXT = 40;
    private static final int MOST_RULES = 16;
    private static final int MOST_LINES = 20;
    private static final int MOST_OPEN = 6;
    // A sum and a product may wait at each bracket that is open, with one more of each and a factor in the last.
    private static final int STACK = 2 * MOST_OPEN + 3;
    private static final int MOST_SLEEPERS = 6;
    private static final int LAST_LETTER_PLACE = 19;
    private static final long MORE_THAN_ALL_MIND = 1L << 40;

    private static final int END = -1;
    private static final int MISPLACED = 1;
    private static final int TOO_LONG = 2;
    private static final int ABOVE_ROOMS = 3;
    private static final int THIRD_DOT = 3;
    private static final int TOO_MANY = 4;
    private static final int TOO_DEEP = 5;
    private static final int NO_GUEST = 7;

    private final Tape tape;
    private final Shaft shaft;
    private final Shaft kept;
    private final Shaft trial;
    private final Air air;
    private final LawReader lawReader;
    private final RegisterReader registerReader;
    private final Climb climb;
    private final Rope rope;
    private final Beds beds;
    private final Laundry laundry;
    private Law lawInForce;
    private Law lawInDraft;
    private boolean isKept;

    public GrilleHotel() {
        tape = new Tape();
        shaft = new Shaft();
        kept = new Shaft();
        trial = new Shaft();
        lawInForce = new Law(shaft);
        lawInDraft = new Law(shaft);
        air = new Air(shaft, lawInForce);
        lawReader = new LawReader(tape, lawInDraft);
        registerReader = new RegisterReader(tape, trial);
        climb = new Climb();
        rope = new Rope();
        beds = new Beds();
        laundry = new Laundry();
        isKept = false;
    }

    public boolean guest(int r, int sins) {
        if (!isRoom(r) || !isWithin(sins, 0, MOST_SINS)) {
            return false;
        }
        shaft.takeIn(r, sins);
        return true;
    }

    public boolean grille(int r, boolean open) {
        if (!isRoom(r)) {
            return false;
        }
        shaft.setGrille(r, open);
        return true;
    }

    public boolean louvre(int r, int set) {
        if (!isRoom(r) || !isWithin(set, LEFT, RIGHT)) {
            return false;
        }
        shaft.setLouvre(r, set);
        return true;
    }

    public int feed(int a, int b, int c, int d, int e) {
        if (!tape.hasSpace()) {
            return NONE;
        }
        tape.addWord(a);
        tape.addWord(b);
        tape.addWord(c);
        tape.addWord(d);
        tape.addWord(e);
        return tape.size;
    }

    public int law(int n) {
        if (!isWithin(n, 1, MOST_LAW_TEXT) || !tape.has(n)) {
            return NONE;
        }
        tape.take(n);
        lawReader.read(lawInDraft);
        if (tape.isFaulty()) {
            return tape.fault;
        }
        Law before = lawInForce;
        lawInForce = lawInDraft;
        lawInDraft = before;
        return lawInForce.rules;
    }

    public int register(int n) {
        if (!isWithin(n, 1, MOST_REGISTER_TEXT) || !tape.has(n)) {
            return NONE;
        }
        tape.take(n);
        // Lines are tried on a copy, as later ones ask for what earlier ones did, and a fault undoes all.
        trial.copyFrom(shaft);
        int lines = registerReader.read(trial);
        if (tape.isFaulty()) {
            return tape.fault;
        }
        shaft.copyFrom(trial);
        return lines;
    }

    public int hours(int n) {
        if (!isWithin(n, 1, MOST_HOURS_A_CALL)) {
            return NONE;
        }
        air.pass(shaft, lawInForce, n);
        return air.cameOut;
    }

    public int tried(int n, int what) {
        boolean ofRoom = isRoom(what - 100);
        if (!isWithin(n, 1, MOST_HOURS_A_CALL) || !(isWithin(what, 0, 3) || ofRoom)) {
            return NONE;
        }
        trial.copyFrom(shaft);
        air.pass(trial, lawInForce, n);
        switch (what) {
            case 0:
                return air.cameOut;
            case 1:
                return air.settled;
            case 2:
                return air.wentOut;
            case 3:
                return sumOf(trial.sins);
            default:
                return trial.felt[what - 100];
        }
    }

    public int roomIs(int r, int what) {
        if (!isRoom(r)) {
            return NONE;
        }
        switch (what) {
            case 0:
                return shaft.hasGuest(r) ? shaft.sins[r] : NOTHING;
            case 1:
                return shaft.hasGuest(r) ? 1 : 0;
            case 2:
                return shaft.isOpen(r) ? 1 : 0;
            case 3:
                return shaft.louvres[r];
            case 4:
                return shaft.grease[r];
            case 5:
                return shaft.felt[r];
            case 6:
                return shaft.feelsOf(r, shaft.mostFeltBy(r));
            case 7:
                return shaft.felt[r] == 0 ? NOTHING : shaft.mostFeltBy(r);
            default:
                return NONE;
        }
    }

    public int feels(int r, int of) {
        if (!isRoom(r) || !isRoom(of)) {
            return NONE;
        }
        return shaft.feelsOf(r, of);
    }

    public int way(int r, int i) {
        if (!isRoom(r)) {
            return NONE;
        }
        if (!isWithin(i, 0, TOP_FLOOR - floorOf(r))) {
            return NOTHING;
        }
        int at = r;
        for (int step = 0; step <= i; step++) {
            at = shaft.above(at);
        }
        return at;
    }

    public int odds(int r, int to, int tenths, int what) {
        if (!isRoom(r) || !isWithin(to, 0, COWL) || !isWithin(tenths, 0, TENTHS) || !isWithin(what, 0, 1)) {
            return NONE;
        }
        int upper = 1;
        int lower = 1;
        int at = r;
        for (int step = 0; step <= TOP_FLOOR && at != COWL; step++) {
            at = shaft.above(at);
            boolean mayComeOut = shaft.takesPart(at);
            if (at == to) {
                int here = at == COWL ? TENTHS : mayComeOut ? tenths : 0;
                return reduced(upper * here, lower * TENTHS, what);
            }
            if (mayComeOut) {
                upper *= TENTHS - tenths;
                lower *= TENTHS;
            }
        }
        return reduced(0, 1, what);
    }

    public int fromWhere(int r) {
        if (!isRoom(r)) {
            return NONE;
        }
        int from = 0;
        for (int q = 0; q < ROOMS; q++) {
            if (q != r && shaft.riseTo(q, floorOf(r)) == r) {
                from |= 1 << q;
            }
        }
        return from;
    }

    public int meet(int r, int q) {
        if (!isRoom(r) || !isRoom(q)) {
            return NONE;
        }
        int lowest = Math.max(floorOf(r), floorOf(q));
        for (int floor = lowest; floor <= TOP_FLOOR; floor++) {
            int met = shaft.riseTo(r, floor);
            if (met == shaft.riseTo(q, floor)) {
                return met;
            }
        }
        return NOTHING;
    }

    public int cowls() {
        int reached = 0;
        for (int r = 0; r < COLUMNS; r++) {
            reached |= 1 << shaft.riseTo(r, TOP_FLOOR);
        }
        return Integer.bitCount(reached);
    }

    public int turn(int r, int to, int what) {
        if (!isRise(r, to) || !(what == IN_ALL || isWithin(what, 0, TOP_FLOOR - 1))) {
            return NONE;
        }
        return climb.turned(shaft, r, to, what);
    }

    public int ways(int r, int to) {
        if (!isRise(r, to)) {
            return NONE;
        }
        return climb.numberOfRows(r, to);
    }

    public int stockings(int rooms, int what) {
        if (!isWithin(rooms, 0, ALL_ROOMS) || !isWithin(what, 0, 1)) {
            return NONE;
        }
        int shut = climb.fewestShut(shaft, rooms);
        return what == 0 ? Integer.bitCount(shut) : shut;
    }

    public long sleep(int n, int rooms, int what) {
        if (!isWithin(n, 1, MOST_SLEEPERS) || !isWithin(rooms, 0, ALL_ROOMS) || Integer.bitCount(rooms) != n) {
            return NONE;
        }
        if (!(what == IN_ALL || isWithin(what, 0, n - 1)) || !tape.has(n)) {
            return NONE;
        }
        tape.take(n);
        beds.share(tape, n, shaft, rooms);
        return what == IN_ALL ? beds.least : beds.bestRow[what];
    }

    public int breakfast(int what) {
        if (what == IN_ALL) {
            return roomThatFeelsMost();
        }
        return isRoom(what) ? roomsThatFeel(what) : NONE;
    }

    public int ropes(int r, int bound, int what) {
        if (!isRoom(r) || !isWithin(bound, 0, MOST_GREASE) || !isWithin(what, 0, 1)) {
            return NONE;
        }
        return rope.let(shaft, r, bound, what);
    }

    public int taps(int n, int what) {
        if (!isWithin(n, 1, MOST_TAPS_TEXT) || !tape.has(n)) {
            return NONE;
        }
        if (!(what == IN_ALL || isWithin(what, 0, LAST_LETTER_PLACE))) {
            return NONE;
        }
        tape.take(n);
        int answer = TapCode.read(tape, what);
        return tape.isFaulty() ? tape.fault : answer;
    }

    public int tapped(int n) {
        if (!isWithin(n, 1, MOST_LETTERS_TEXT) || !tape.has(n)) {
            return NONE;
        }
        tape.take(n);
        int answer = TapCode.lengthOf(tape);
        return tape.isFaulty() ? tape.fault : answer;
    }

    public int linen(int n, int weeks, int what) {
        if (!isWithin(n, 1, ROOMS) || !isWithin(weeks, 0, MOST_WEEKS) || !tape.has(n)) {
            return NONE;
        }
        if (!(what == IN_ALL || what == ROUNDS || isWithin(what, 0, n - 1))) {
            return NONE;
        }
        tape.take(n);
        if (!laundry.learn(tape, n)) {
            return NOTHING;
        }
        if (what == IN_ALL) {
            return laundry.weeksTillHome();
        }
        return what == ROUNDS ? laundry.rounds() : laundry.placeOf(what, weeks);
    }

    public int dust(int what) {
        if (!isWithin(what, 0, 1)) {
            return NONE;
        }
        if (shaft.guests == 0) {
            return NOTHING;
        }
        return what == 0 ? guestWhoFeelsLeast() : medianFelt();
    }

    public boolean seed(int x) {
        if (!isWithin(x, 0, MOST_SEED)) {
            return false;
        }
        shaft.x = x;
        return true;
    }

    public int keep() {
        kept.copyFrom(shaft);
        isKept = true;
        return kept.hour;
    }

    public boolean undo() {
        if (!isKept) {
            return false;
        }
        shaft.copyFrom(kept);
        return true;
    }

    public int check(int n) {
        if (!isWithin(n, 0, ROOMS) || !tape.has(n)) {
            return NOTHING;
        }
        tape.take(n);
        for (int r = 0; r < n; r++) {
            if (tape.byteAt(r) != shaft.sins[r] % 256) {
                return r;
            }
        }
        return NONE;
    }

    public int count(int what) {
        switch (what) {
            case 0:
                return shaft.hour;
            case 1:
                return shaft.cowl;
            case 2:
                return shaft.guests;
            case 3:
                return shaft.grilles;
            case 4:
                return lawInForce.rules;
            case 5:
                return tape.size;
            case 6:
                return shaft.x;
            case 7:
                return sumOf(shaft.sins);
            case 8:
                return sumOf(shaft.grease);
            default:
                return NONE;
        }
    }

    private int roomThatFeelsMost() {
        int most = 0;
        for (int r = 1; r < ROOMS; r++) {
            if (shaft.felt[r] > shaft.felt[most]) {
                most = r;
            }
        }
        return shaft.felt[most] == 0 ? NOTHING : most;
    }

    private int roomsThatFeel(int of) {
        int found = 0;
        for (int r = 0; r < ROOMS; r++) {
            if (shaft.feelsOf(r, of) > 0) {
                found |= 1 << r;
            }
        }
        return found;
    }

    private int guestWhoFeelsLeast() {
        int least = NOTHING;
        for (int r = 0; r < ROOMS; r++) {
            if (shaft.hasGuest(r) && (least < 0 || shaft.felt[r] < shaft.felt[least])) {
                least = r;
            }
        }
        return least;
    }

    /** The lower middle one is the one with fewer than half below it, and half or more not above it. */
    private int medianFelt() {
        int middle = (Integer.bitCount(shaft.guests) - 1) / 2;
        for (int r = 0; r < ROOMS; r++) {
            if (shaft.hasGuest(r)) {
                int below = guestsWhoFeelLessThan(shaft.felt[r]);
                int notAbove = guestsWhoFeelLessThan(shaft.felt[r] + 1);
                if (below <= middle && middle < notAbove) {
                    return shaft.felt[r];
                }
            }
        }
        return NOTHING;
    }

    private int guestsWhoFeelLessThan(int bound) {
        int found = 0;
        for (int r = 0; r < ROOMS; r++) {
            if (shaft.hasGuest(r) && shaft.felt[r] < bound) {
                found++;
            }
        }
        return found;
    }

    private static boolean isWithin(int number, int least, int most) {
        return number >= least && number <= most;
    }

    private static boolean isRoom(int r) {
        return r >= 0 && r < ROOMS;
    }

    private static boolean isRise(int r, int to) {
        return isRoom(r) && isRoom(to) && floorOf(to) > floorOf(r);
    }

    private static int floorOf(int r) {
        return r / COLUMNS;
    }

    private static int columnOf(int r) {
        return r % COLUMNS;
    }

    /** At the sides of the shaft a louvre that points at the wall leads straight up. */
    private static int columnBy(int column, int set) {
        return Math.max(0, Math.min(COLUMNS - 1, column + set - STRAIGHT));
    }

    private static int sumOf(int[] row) {
        int sum = 0;
        for (int value : row) {
            sum += value;
        }
        return sum;
    }

    private static int commonDivisor(int a, int b) {
        int greater = a;
        int smaller = b;
        for (int round = 0; round < 64 && smaller != 0; round++) {
            int rest = greater % smaller;
            greater = smaller;
            smaller = rest;
        }
        return greater;
    }

    private static int reduced(int upper, int lower, int what) {
        int divisor = commonDivisor(upper, lower);
        if (divisor == 0) {
            return NONE;
        }
        return (what == 0 ? upper : lower) / divisor;
    }

    /** The bytes that were fed, and the reading of a text from them; the first fault that is noted stands. */
    private static final class Tape {
        final int[] bytes;
        int size;
        int end;
        int at;
        int fault;

        Tape() {
            bytes = new int[MOST_TAPE];
        }

        boolean hasSpace() {
            return size + BYTES_FED <= MOST_TAPE;
        }

        void addWord(int word) {
            for (int shift = 24; shift >= 0; shift -= 8) {
                if (size >= 0 && size < bytes.length) {
                    bytes[size] = word >> shift & 255;
                    size++;
                }
            }
        }

        boolean has(int n) {
            return n <= size;
        }

        /** The tape is empty from here on; its first n bytes can be read until it is fed again. */
        void take(int n) {
            size = 0;
            end = Math.min(n, bytes.length);
            at = 0;
            fault = 0;
        }

        int byteAt(int i) {
            return i >= 0 && i < end && i < bytes.length ? bytes[i] : END;
        }

        /** Behind a fault all looks like the end, so that every reading loop stops. */
        int sign() {
            return fault == 0 && at >= 0 && at < end && at < bytes.length ? bytes[at] : END;
        }

        boolean isOver() {
            return fault != 0 || at >= end;
        }

        boolean isFaulty() {
            return fault != 0;
        }

        void step() {
            at++;
        }

        void expect(int wanted) {
            if (sign() == wanted) {
                step();
            } else {
                failAt(MISPLACED, at);
            }
        }

        void failAt(int number, int place) {
            if (fault == 0) {
                fault = -1000 * number - place;
            }
        }

        /** A number of one to so many digits; NONE with a fault. */
        int number(int mostDigits) {
            if (!isDigit(sign())) {
                failAt(MISPLACED, at);
                return NONE;
            }
            int value = 0;
            for (int i = 0; i < mostDigits && isDigit(sign()); i++) {
                value = value * 10 + sign() - '0';
                step();
            }
            if (isDigit(sign())) {
                failAt(TOO_LONG, at);
                return NONE;
            }
            return value;
        }

        static boolean isDigit(int sign) {
            return sign >= '0' && sign <= '9';
        }
    }

    /** All that is kept and undone: guests, grilles, louvres, what is felt, grease, cowl, hour and X. */
    private static final class Shaft {
        final int[] sins;
        final int[] louvres;
        final int[] grease;
        final int[] feels;
        // The sum of each room's row of feels, as laws may ask for it at every room passed.
        final int[] felt;
        int guests;
        int grilles;
        int cowl;
        int hour;
        int x;

        Shaft() {
            sins = new int[ROOMS];
            louvres = new int[ROOMS];
            Arrays.fill(louvres, STRAIGHT);
            grease = new int[ROOMS];
            feels = new int[ROOMS * ROOMS];
            felt = new int[ROOMS];
            grilles = ALL_ROOMS;
            x = 1;
        }

        void copyFrom(Shaft other) {
            System.arraycopy(other.sins, 0, sins, 0, ROOMS);
            System.arraycopy(other.louvres, 0, louvres, 0, ROOMS);
            System.arraycopy(other.grease, 0, grease, 0, ROOMS);
            System.arraycopy(other.feels, 0, feels, 0, ROOMS * ROOMS);
            System.arraycopy(other.felt, 0, felt, 0, ROOMS);
            guests = other.guests;
            grilles = other.grilles;
            cowl = other.cowl;
            hour = other.hour;
            x = other.x;
        }

        boolean hasGuest(int r) {
            return isRoom(r) && (guests >> r & 1) == 1;
        }

        boolean isOpen(int r) {
            return isRoom(r) && (grilles >> r & 1) == 1;
        }

        boolean takesPart(int r) {
            return isRoom(r) && (guests & grilles & 1 << r) != 0;
        }

        int feelsOf(int r, int of) {
            return isRoom(r) && isRoom(of) ? feels[r * ROOMS + of] : 0;
        }

        int mostFeltBy(int r) {
            int most = 0;
            for (int of = 1; of < ROOMS; of++) {
                if (feelsOf(r, of) > feelsOf(r, most)) {
                    most = of;
                }
            }
            return most;
        }

        void takeIn(int r, int count) {
            if (isRoom(r)) {
                guests |= 1 << r;
                sins[r] = count;
                forget(r);
            }
        }

        void sendAway(int r) {
            if (isRoom(r)) {
                guests &= ~(1 << r);
                sins[r] = 0;
                forget(r);
            }
        }

        void setGrille(int r, boolean open) {
            if (isRoom(r)) {
                grilles = open ? grilles | 1 << r : grilles & ~(1 << r);
            }
        }

        void setLouvre(int r, int set) {
            if (isRoom(r)) {
                louvres[r] = set;
            }
        }

        void exchange(int r, int q) {
            if (!isRoom(r) || !isRoom(q)) {
                return;
            }
            if (hasGuest(r) != hasGuest(q)) {
                guests ^= 1 << r | 1 << q;
            }
            swap(sins, r, q);
            swap(felt, r, q);
            for (int of = 0; of < ROOMS; of++) {
                swap(feels, r * ROOMS + of, q * ROOMS + of);
            }
        }

        void addGrease(int r, int amount) {
            if (isRoom(r)) {
                grease[r] = Math.min(MOST_GREASE, grease[r] + amount);
            }
        }

        void addFelt(int r, int of, int amount) {
            if (isRoom(r) && isRoom(of)) {
                int before = feels[r * ROOMS + of];
                int now = Math.min(MOST_FELT, before + amount);
                feels[r * ROOMS + of] = now;
                felt[r] += now - before;
            }
        }

        int draw() {
            x = (25173 * x + 13849) & MOST_SEED;
            return x % 10;
        }

        int above(int r) {
            if (!isRoom(r) || floorOf(r) == TOP_FLOOR) {
                return COWL;
            }
            return (floorOf(r) + 1) * COLUMNS + columnBy(columnOf(r), louvres[r]);
        }

        /** The room on that floor that a room's way passes, or it itself on its own floor and on lower ones. */
        int riseTo(int r, int floor) {
            int at = r;
            for (int f = floorOf(r); f < floor && f < TOP_FLOOR; f++) {
                at = above(at);
            }
            return at;
        }

        private void forget(int r) {
            for (int of = 0; of < ROOMS; of++) {
                feels[r * ROOMS + of] = 0;
            }
            felt[r] = 0;
        }

        private static void swap(int[] row, int i, int j) {
            int first = row[i];
            row[i] = row[j];
            row[j] = first;
        }
    }

    /**
     * Rules as steps for a machine with a stack: a number is the sign '0' with its value, a letter, operator or
     * comparison is its own sign; an and (or an or) with its value leads past what need not be asked any more.
     */
    private static final class Law {
        private final int[] signs;
        private final int[] values;
        private final int[] kinds;
        private final int[] amounts;
        private final int[] tests;
        private final int[] ends;
        int size;
        int rules;

        private final int[] stack;
        private int top;
        private boolean holds;
        private boolean isRefused;

        private Shaft shaft;
        private int from;
        private int at;
        private int left;

        Law(Shaft ofShaft) {
            signs = new int[MOST_LAW_TEXT];
            values = new int[MOST_LAW_TEXT];
            kinds = new int[MOST_RULES];
            amounts = new int[MOST_RULES];
            tests = new int[MOST_RULES];
            ends = new int[MOST_RULES];
            stack = new int[STACK];
            shaft = ofShaft;
        }

        void clear() {
            size = 0;
            rules = 0;
        }

        int add(int sign, int value) {
            int place = size;
            if (place >= 0 && place < signs.length) {
                signs[place] = sign;
                values[place] = value;
                size++;
            }
            return place;
        }

        void leadToHere(int place) {
            if (place >= 0 && place < size) {
                values[place] = size;
            }
        }

        void addRule(int kind, int amount, int test) {
            if (rules >= 0 && rules < kinds.length) {
                kinds[rules] = kind;
                amounts[rules] = amount;
                tests[rules] = test;
                ends[rules] = size;
                rules++;
            }
        }

        /** What the rules are asked of from here on: so much from one room that is at another. */
        void look(Shaft inShaft, int fromRoom, int atRoom, int howMuch) {
            shaft = inShaft;
            from = fromRoom;
            at = atRoom;
            left = howMuch;
        }

        boolean isFog() {
            for (int i = 0; i < rules && i < MOST_RULES; i++) {
                if (kinds[i] == 'x') {
                    run(tests[i], ends[i]);
                    if (holds && !isRefused) {
                        return true;
                    }
                }
            }
            return false;
        }

        int amountOf(int kind, int most) {
            for (int i = 0; i < rules && i < MOST_RULES; i++) {
                if (kinds[i] == kind) {
                    run(tests[i], ends[i]);
                    if (holds && !isRefused) {
                        run(amounts[i], tests[i]);
                        return isRefused ? 0 : Math.max(0, Math.min(most, stack[0]));
                    }
                }
            }
            return 0;
        }

        private void run(int start, int end) {
            top = 0;
            holds = false;
            isRefused = false;
            int step = start;
            for (int i = 0; i < MOST_LAW_TEXT && step >= 0 && step < end && step < size && !isRefused; i++) {
                int sign = signs[step];
                int next = step + 1;
                switch (sign) {
                    case '|':
                        next = holds ? values[step] : next;
                        break;
                    case '&':
                        next = holds ? next : values[step];
                        break;
                    case '!':
                        holds = !holds;
                        break;
                    case '<':
                    case '>':
                    case '=':
                        compareTwo(sign);
                        break;
                    case '+':
                    case '-':
                    case '*':
                    case '/':
                    case '%':
                        reckonTwo(sign);
                        break;
                    default:
                        push(sign == '0' ? values[step] : letter(sign));
                }
                step = next;
            }
        }

        private void push(int value) {
            if (top >= 0 && top < STACK) {
                stack[top] = value;
                top++;
            }
        }

        private void compareTwo(int sign) {
            if (top < 2 || top > STACK) {
                return;
            }
            int second = stack[top - 1];
            int first = stack[top - 2];
            top -= 2;
            holds = sign == '<' ? first < second : sign == '>' ? first > second : first == second;
        }

        private void reckonTwo(int sign) {
            if (top < 2 || top > STACK) {
                return;
            }
            int second = stack[top - 1];
            int first = stack[top - 2];
            top--;
            if (sign == '+') {
                stack[top - 1] = first + second;
            } else if (sign == '-') {
                stack[top - 1] = first - second;
            } else if (sign == '*') {
                stack[top - 1] = first * second;
            } else if (second == 0) {
                isRefused = true;
            } else {
                stack[top - 1] = sign == '/' ? first / second : first % second;
            }
        }

        private int letter(int sign) {
            if (from < 0 || from >= ROOMS || at < 0 || at >= ROOMS) {
                return 0;
            }
            switch (sign) {
                case 'r':
                    return from;
                case 's':
                    return shaft.sins[from];
                case 'p':
                    return at;
                case 'f':
                    return at / COLUMNS;
                case 'w':
                    return shaft.felt[at];
                case 'g':
                    return shaft.grease[at];
                case 'a':
                    return left;
                case 'h':
                    return shaft.hour % 24;
                default:
                    return 0;
            }
        }
    }

    /** Reads a law's text from the tape; behind a fault the law that it fills is of no use. */
    private static final class LawReader {
        private final Tape tape;
        private Law law;

        LawReader(Tape ofTape, Law ofLaw) {
            tape = ofTape;
            law = ofLaw;
        }

        void read(Law into) {
            law = into;
            law.clear();
            for (int i = 0; i <= MOST_RULES; i++) {
                readRule();
                if (tape.isOver()) {
                    return;
                }
                tape.expect(';');
            }
        }

        private void readRule() {
            int kind = tape.sign();
            if (kind != 'c' && kind != 'k' && kind != 'd' && kind != 'x') {
                tape.failAt(MISPLACED, tape.at);
                return;
            }
            if (law.rules == MOST_RULES) {
                tape.failAt(TOO_MANY, tape.at);
                return;
            }
            tape.step();
            int amount = law.size;
            if (kind != 'x') {
                readAmount(0);
            }
            int test = law.size;
            tape.expect('(');
            readCondition(1);
            tape.expect(')');
            law.addRule(kind, amount, test);
        }

        private void readCondition(int open) {
            readPart(open);
            for (int i = 0; i < MOST_LAW_TEXT && tape.sign() == '|'; i++) {
                tape.step();
                int past = law.add('|', 0);
                readPart(open);
                law.leadToHere(past);
            }
        }

        private void readPart(int open) {
            readTest(open);
            for (int i = 0; i < MOST_LAW_TEXT && tape.sign() == '&'; i++) {
                tape.step();
                int past = law.add('&', 0);
                readTest(open);
                law.leadToHere(past);
            }
        }

        private void readTest(int open) {
            int first = tape.sign();
            if (first == '!') {
                if (opens(open)) {
                    readTest(open + 1);
                    law.add('!', 0);
                }
                return;
            }
            if (first == '(') {
                if (opens(open)) {
                    readCondition(open + 1);
                    tape.expect(')');
                }
                return;
            }
            readAmount(open);
            int sign = tape.sign();
            if (sign != '<' && sign != '>' && sign != '=') {
                tape.failAt(MISPLACED, tape.at);
                return;
            }
            tape.step();
            readAmount(open);
            law.add(sign, 0);
        }

        private void readAmount(int open) {
            readTerm(open);
            for (int i = 0; i < MOST_LAW_TEXT && (tape.sign() == '+' || tape.sign() == '-'); i++) {
                int sign = tape.sign();
                tape.step();
                readTerm(open);
                law.add(sign, 0);
            }
        }

        private void readTerm(int open) {
            readFactor(open);
            for (int i = 0; i < MOST_LAW_TEXT && isTimes(tape.sign()); i++) {
                int sign = tape.sign();
                tape.step();
                readFactor(open);
                law.add(sign, 0);
            }
        }

        private void readFactor(int open) {
            int sign = tape.sign();
            if (sign == '[') {
                if (opens(open)) {
                    readAmount(open + 1);
                    tape.expect(']');
                }
            } else if (Tape.isDigit(sign)) {
                law.add('0', tape.number(5));
            } else if (isLetter(sign)) {
                tape.step();
                law.add(sign, 0);
            } else {
                tape.failAt(MISPLACED, tape.at);
            }
        }

        /** Goes past a ( [ or !, or notes that it is one too many in one another. */
        private boolean opens(int open) {
            if (open >= MOST_OPEN) {
                tape.failAt(TOO_DEEP, tape.at);
                return false;
            }
            tape.step();
            return true;
        }

        private static boolean isTimes(int sign) {
            return sign == '*' || sign == '/' || sign == '%';
        }

        private static boolean isLetter(int sign) {
            switch (sign) {
                case 'r':
                case 's':
                case 'p':
                case 'f':
                case 'w':
                case 'g':
                case 'a':
                case 'h':
                    return true;
                default:
                    return false;
            }
        }
    }

    /** Lets hours pass in a shaft, and tells how much came out, settled and went out in them. */
    private static final class Air {
        private Shaft shaft;
        private Law law;
        int cameOut;
        int settled;
        int wentOut;

        Air(Shaft ofShaft, Law ofLaw) {
            shaft = ofShaft;
            law = ofLaw;
        }

        void pass(Shaft inShaft, Law byLaw, int n) {
            shaft = inShaft;
            law = byLaw;
            cameOut = 0;
            settled = 0;
            wentOut = 0;
            for (int i = 0; i < n && shaft.hour < MOST_HOUR; i++) {
                for (int r = 0; r < ROOMS; r++) {
                    sendUp(r);
                }
                shaft.hour++;
            }
        }

        private void sendUp(int r) {
            if (!shaft.takesPart(r) || shaft.sins[r] == 0) {
                return;
            }
            law.look(shaft, r, r, 0);
            if (law.isFog()) {
                return;
            }
            int sent = Math.min(law.amountOf('c', MOST_SENT), shaft.sins[r]);
            if (sent > 0) {
                shaft.sins[r] -= sent;
                rise(r, sent);
            }
        }

        private void rise(int r, int sent) {
            int left = sent;
            int at = shaft.above(r);
            for (int step = 0; step < TOP_FLOOR && isRoom(at); step++) {
                law.look(shaft, r, at, left);
                int grease = Math.min(law.amountOf('k', MOST_SENT), left);
                shaft.addGrease(at, grease);
                settled += grease;
                left -= grease;
                if (left == 0) {
                    return;
                }
                law.look(shaft, r, at, left);
                // A number is drawn wherever it might come out, even if the law says it never does.
                if (shaft.takesPart(at) && shaft.draw() < law.amountOf('d', TENTHS)) {
                    shaft.addFelt(at, r, left);
                    cameOut += left;
                    return;
                }
                at = shaft.above(at);
            }
            shaft.cowl = Math.min(MOST_COWL, shaft.cowl + left);
            wentOut += left;
        }
    }

    /** Does the lines of a register, read from the tape, one by one in a shaft. */
    private static final class RegisterReader {
        private final Tape tape;
        private Shaft shaft;

        RegisterReader(Tape ofTape, Shaft ofShaft) {
            tape = ofTape;
            shaft = ofShaft;
        }

        int read(Shaft into) {
            shaft = into;
            for (int lines = 1; lines <= MOST_LINES; lines++) {
                doLine();
                if (tape.isOver()) {
                    return lines;
                }
                tape.expect(';');
            }
            tape.failAt(Tape.isDigit(tape.sign()) ? TOO_MANY : MISPLACED, tape.at);
            return MOST_LINES;
        }

        private void doLine() {
            int r = readRoom();
            if (r == NONE) {
                return;
            }
            int place = tape.at;
            int sign = tape.sign();
            tape.step();
            switch (sign) {
                case '=':
                    takeIn(r);
                    break;
                case '!':
                    sendAway(r, place);
                    break;
                case '@':
                    exchange(r, place);
                    break;
                case 'o':
                    shaft.setGrille(r, true);
                    break;
                case 's':
                    shaft.setGrille(r, false);
                    break;
                case '<':
                    shaft.setLouvre(r, LEFT);
                    break;
                case '|':
                    shaft.setLouvre(r, STRAIGHT);
                    break;
                case '>':
                    shaft.setLouvre(r, RIGHT);
                    break;
                default:
                    tape.failAt(MISPLACED, place);
            }
        }

        private int readRoom() {
            int place = tape.at;
            int r = tape.number(2);
            if (r >= ROOMS) {
                tape.failAt(ABOVE_ROOMS, place);
                return NONE;
            }
            return r;
        }

        private void takeIn(int r) {
            int count = tape.number(4);
            if (count != NONE) {
                shaft.takeIn(r, count);
            }
        }

        private void sendAway(int r, int place) {
            if (shaft.hasGuest(r)) {
                shaft.sendAway(r);
            } else {
                tape.failAt(NO_GUEST, place);
            }
        }

        private void exchange(int r, int place) {
            int q = readRoom();
            if (q == NONE) {
                return;
            }
            if (shaft.hasGuest(r) || shaft.hasGuest(q)) {
                shaft.exchange(r, q);
            } else {
                tape.failAt(NO_GUEST, place);
            }
        }
    }

    /** What is asked of ways as they are, and as they might be, is reckoned here floor by floor. */
    private static final class Climb {
        private static final int FAR = 1000;

        private final int[] toGo;
        private final int[] forced;

        Climb() {
            toGo = new int[ROOMS];
            forced = new int[ROOMS];
        }

        int turned(Shaft shaft, int r, int to, int what) {
            fillFewestTurns(shaft, to);
            if (toGo[r] >= FAR) {
                return NOTHING;
            }
            if (what == IN_ALL) {
                return toGo[r];
            }
            if (what >= floorOf(to) - floorOf(r)) {
                return NO_PLACE;
            }
            int at = r;
            for (int step = 0; step <= what; step++) {
                at = leastNext(shaft, at);
            }
            return columnOf(at);
        }

        int numberOfRows(int r, int to) {
            Arrays.fill(toGo, 0);
            toGo[to] = 1;
            for (int p = floorOf(to) * COLUMNS - 1; p >= 0; p--) {
                for (int q = lowestAbove(p); q <= highestAbove(p); q++) {
                    toGo[p] += toGo[q];
                }
            }
            return toGo[r];
        }

        /**
         * Ways join as branches of trees, and shutting is asked of pairs on one branch alone: so each tree is
         * reckoned for itself. A weight has the number of grilles ahead of their bits, so the least is the answer.
         */
        int fewestShut(Shaft shaft, int rooms) {
            Arrays.fill(toGo, 0);
            Arrays.fill(forced, 0);
            int whole = 0;
            for (int p = 0; p < ROOMS; p++) {
                boolean takesPart = shaft.takesPart(p);
                int weight = 1 << ROOMS | 1 << p;
                int best = takesPart ? Math.min(toGo[p] + weight, forced[p]) : toGo[p];
                boolean isAsked = takesPart && (rooms >> p & 1) == 1;
                int allShut = isAsked ? forced[p] + weight : forced[p];
                int next = shaft.above(p);
                if (isRoom(next)) {
                    toGo[next] += best;
                    forced[next] += allShut;
                } else {
                    whole += best;
                }
            }
            return whole & ALL_ROOMS;
        }

        private void fillFewestTurns(Shaft shaft, int to) {
            Arrays.fill(toGo, FAR);
            toGo[to] = 0;
            for (int p = floorOf(to) * COLUMNS - 1; p >= 0; p--) {
                for (int q = lowestAbove(p); q <= highestAbove(p); q++) {
                    toGo[p] = Math.min(toGo[p], turnsBy(shaft, p, q));
                }
            }
        }

        private int turnsBy(Shaft shaft, int p, int q) {
            return toGo[q] + (shaft.above(p) == q ? 0 : 1);
        }

        private int leastNext(Shaft shaft, int p) {
            for (int q = lowestAbove(p); q <= highestAbove(p); q++) {
                if (turnsBy(shaft, p, q) == toGo[p]) {
                    return q;
                }
            }
            return p;
        }

        private static int lowestAbove(int p) {
            return Math.min(floorOf(p) + 1, TOP_FLOOR) * COLUMNS + columnBy(columnOf(p), LEFT);
        }

        private static int highestAbove(int p) {
            return Math.min(floorOf(p) + 1, TOP_FLOOR) * COLUMNS + columnBy(columnOf(p), RIGHT);
        }
    }

    /** A man on ropes: costs have the bends ahead of the places, by the direction in which a place is come to. */
    private static final class Rope {
        private static final int BEND = 100;
        private static final int FAR = 1000000;

        private final int[] down;
        private final int[] left;
        private final int[] right;

        Rope() {
            down = new int[COLUMNS];
            left = new int[COLUMNS];
            right = new int[COLUMNS];
        }

        int let(Shaft shaft, int r, int bound, int what) {
            Arrays.fill(down, 0);
            Arrays.fill(left, FAR);
            Arrays.fill(right, FAR);
            for (int floor = TOP_FLOOR; floor >= 0 && floor >= floorOf(r); floor--) {
                goDown(shaft, floor, bound);
                goLeft(shaft, floor, bound);
                goRight(shaft, floor, bound);
            }
            int cost = Math.min(down[columnOf(r)], aside(columnOf(r)));
            if (cost >= FAR) {
                return NOTHING;
            }
            return what == 0 ? cost / BEND : cost % BEND;
        }

        private int aside(int column) {
            return Math.min(left[column], right[column]);
        }

        private void goDown(Shaft shaft, int floor, int bound) {
            for (int c = 0; c < COLUMNS; c++) {
                down[c] = costAt(shaft, floor, c, bound, Math.min(down[c], aside(c) + BEND));
            }
        }

        private void goLeft(Shaft shaft, int floor, int bound) {
            left[COLUMNS - 1] = FAR;
            for (int c = COLUMNS - 2; c >= 0; c--) {
                left[c] = costAt(shaft, floor, c, bound, Math.min(down[c + 1] + BEND, left[c + 1]));
            }
        }

        private void goRight(Shaft shaft, int floor, int bound) {
            right[0] = FAR;
            for (int c = 1; c < COLUMNS; c++) {
                right[c] = costAt(shaft, floor, c, bound, Math.min(down[c - 1] + BEND, right[c - 1]));
            }
        }

        private static int costAt(Shaft shaft, int floor, int column, int bound, int before) {
            boolean isBarred = shaft.grease[floor * COLUMNS + column] > bound;
            return isBarred ? FAR : Math.min(FAR, before + 1);
        }
    }

    /** Puts guests into rooms so that least is minded: every row is tried, the least first. */
    private static final class Beds {
        private final int[] minds;
        private final int[] felt;
        private final int[] row;
        final int[] bestRow;
        private int number;
        long least;

        Beds() {
            minds = new int[MOST_SLEEPERS];
            felt = new int[MOST_SLEEPERS];
            row = new int[MOST_SLEEPERS];
            bestRow = new int[MOST_SLEEPERS];
        }

        void share(Tape tape, int n, Shaft shaft, int rooms) {
            number = Math.min(n, MOST_SLEEPERS);
            for (int i = 0; i < number; i++) {
                minds[i] = tape.byteAt(i);
            }
            int place = 0;
            for (int r = 0; r < ROOMS; r++) {
                if ((rooms >> r & 1) == 1 && place < number) {
                    felt[place] = shaft.felt[r];
                    place++;
                }
            }
            least = MORE_THAN_ALL_MIND;
            fill(0, 0, 0);
        }

        private void fill(int place, int used, long minded) {
            if (place >= number) {
                if (minded < least) {
                    least = minded;
                    System.arraycopy(row, 0, bestRow, 0, number);
                }
                return;
            }
            for (int who = 0; who < number; who++) {
                if ((used >> who & 1) == 0) {
                    row[place] = who;
                    fill(place + 1, used | 1 << who, minded + (long) minds[who] * felt[place]);
                }
            }
        }
    }

    /** Letters by taps: a row and a column of a square of five by five, in which C stands for K. */
    private static final class TapCode {
        private static final int SIDE = 5;
        private static final int LETTER_C = 2;
        private static final int LETTER_K = 10;

        private TapCode() {
        }

        static int read(Tape tape, int what) {
            int letters = 0;
            int asked = NO_PLACE;
            for (int i = 0; i < MOST_TAPS_TEXT; i++) {
                int letter = readLetter(tape);
                if (letters == what) {
                    asked = letter;
                }
                letters++;
                if (tape.isOver()) {
                    break;
                }
                readGap(tape);
            }
            return what == IN_ALL ? letters : asked;
        }

        static int lengthOf(Tape tape) {
            int length = -2;
            for (int i = 0; i < MOST_LETTERS_TEXT && !tape.isOver(); i++) {
                int letter = tape.sign() - 'A';
                if (!isWithin(letter, 0, 25)) {
                    tape.failAt(MISPLACED, tape.at);
                    return NONE;
                }
                tape.step();
                length += 2 + tapsOf(letter) + 1;
            }
            return length;
        }

        private static int tapsOf(int letter) {
            int place = letter == LETTER_K ? LETTER_C : letter > LETTER_K ? letter - 1 : letter;
            return place / SIDE + 1 + place % SIDE + 1;
        }

        private static int readLetter(Tape tape) {
            int row = readTaps(tape);
            tape.expect('.');
            int column = readTaps(tape);
            int place = (row - 1) * SIDE + column - 1;
            return place >= LETTER_K ? place + 1 : place;
        }

        private static int readTaps(Tape tape) {
            int found = 0;
            for (int i = 0; i < SIDE && tape.sign() == 'x'; i++) {
                tape.step();
                found++;
            }
            if (found == 0) {
                tape.failAt(MISPLACED, tape.at);
            }
            if (tape.sign() == 'x') {
                tape.failAt(TOO_LONG, tape.at);
            }
            return found;
        }

        private static void readGap(Tape tape) {
            tape.expect('.');
            tape.expect('.');
            if (tape.sign() == '.') {
                tape.failAt(THIRD_DOT, tape.at);
            }
        }
    }

    /** Linen that goes round: each room's goes to another one or its own, so all falls into rounds. */
    private static final class Laundry {
        private final int[] next;
        private int number;

        Laundry() {
            next = new int[ROOMS];
        }

        /** False if not each room is told just once. */
        boolean learn(Tape tape, int n) {
            number = Math.min(n, ROOMS);
            int told = 0;
            for (int i = 0; i < number; i++) {
                int to = tape.byteAt(i);
                if (to < 0 || to >= number || (told >> to & 1) == 1) {
                    return false;
                }
                told |= 1 << to;
                next[i] = to;
            }
            return true;
        }

        int weeksTillHome() {
            int weeks = 1;
            for (int i = 0; i < number; i++) {
                int length = roundOf(i);
                int divisor = commonDivisor(weeks, length);
                if (divisor > 0) {
                    weeks = weeks / divisor * length;
                }
            }
            return weeks;
        }

        int rounds() {
            int found = 0;
            for (int i = 0; i < number; i++) {
                if (isLowestOfRound(i)) {
                    found++;
                }
            }
            return found;
        }

        int placeOf(int i, int weeks) {
            int length = roundOf(i);
            return length > 0 ? after(i, weeks % length) : i;
        }

        private int after(int i, int weeks) {
            int at = i;
            for (int week = 0; week < weeks; week++) {
                at = next[at];
            }
            return at;
        }

        private int roundOf(int i) {
            int at = next[i];
            int length = 1;
            for (int week = 1; week < number && at != i; week++) {
                at = next[at];
                length++;
            }
            return length;
        }

        private boolean isLowestOfRound(int i) {
            int at = next[i];
            for (int week = 1; week < number && at != i; week++) {
                if (at < i) {
                    return false;
                }
                at = next[at];
            }
            return true;
        }
    }
}
