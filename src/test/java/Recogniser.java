import java.util.ArrayDeque;
import java.util.Deque;

/**
 * Faults once more, byte by byte: what may stand at a place follows from a state and from what is open, without the
 * calls into one another by which both the class and the model read. An answer is as the document has it: how many
 * rules, lines or letters, or -1000 times the fault's number, less its place.
 */
final class Recogniser {
    private static final int END = -1;

    private enum At { RULE, FOG, FACTOR, NUMBER, BEHIND_FACTOR, TEST, BEHIND_TEST, BEHIND_RULE }

    private final String text;
    private int place = 0;
    private int fault = 0;

    private Recogniser(String text) {
        this.text = text;
    }

    private static boolean isOneOf(String signs, int sign) {
        return sign != END && signs.indexOf(sign) >= 0;
    }

    private static boolean isDigit(int sign) {
        return isOneOf("0123456789", sign);
    }

    private int sign() {
        return place < text.length() ? text.charAt(place) : END;
    }

    private void fail(int number) {
        fault = -1000 * number - place;
    }

    /** Whether all is well as far as a text goes, so that more could make it a whole one. */
    static boolean mayGoOn(String text, int answer) {
        return answer > 0 || answer == -1000 - text.length();
    }

    static int law(String text) {
        Recogniser r = new Recogniser(text);
        r.readLaw();
        return r.fault != 0 ? r.fault : r.rules;
    }

    private final Deque<Character> open = new ArrayDeque<>();
    private At at = At.RULE;
    private int rules = 0;
    private int digits = 0;

    private void readLaw() {
        while (fault == 0 && !(at == At.BEHIND_RULE && sign() == END)) {
            switch (at) {
                case RULE -> rule();
                case FOG -> go("(", At.TEST, '(');
                case FACTOR -> factor();
                case NUMBER -> number();
                case BEHIND_FACTOR -> behindFactor();
                case TEST -> test();
                case BEHIND_TEST -> behindTest();
                case BEHIND_RULE -> go(";", At.RULE, ' ');
            }
        }
    }

    /** If one of these signs stands here, on behind it, with one more thing open. */
    private void go(String signs, At next, char opened) {
        if (!isOneOf(signs, sign())) {
            fail(1);
            return;
        }
        if (opened != ' ') {
            open.push(opened);
        }
        place++;
        at = next;
    }

    private void rule() {
        if (isOneOf("ckdx", sign()) && rules == 16) {
            fail(4);
            return;
        }
        boolean isFog = sign() == 'x';
        go("ckdx", isFog ? At.FOG : At.FACTOR, isFog ? ' ' : 'E');
        rules++;
    }

    private void goDeeper(At next) {
        long deep = open.stream().filter(sign -> isOneOf("([!", sign)).count();
        if (deep == 6) {
            fail(5);
            return;
        }
        go("([!", next, (char) sign());
    }

    private void factor() {
        digits = 0;
        if (sign() == '[') {
            goDeeper(At.FACTOR);
        } else if (isDigit(sign())) {
            at = At.NUMBER;
        } else {
            go("rspfwgah", At.BEHIND_FACTOR, ' ');
        }
    }

    private void number() {
        if (!isDigit(sign())) {
            at = At.BEHIND_FACTOR;
        } else if (digits == 5) {
            fail(2);
        } else {
            digits++;
            place++;
        }
    }

    private void behindFactor() {
        char last = open.peek();
        if (isOneOf("+-*/%", sign())) {
            go("+-*/%", At.FACTOR, ' ');
        } else if (last == '[') {
            go("]", At.BEHIND_FACTOR, ' ');
            open.pop();
        } else if (last == 'E') {
            open.pop();
            go("(", At.TEST, '(');
        } else if (last == 'L') {
            open.pop();
            go("<>=", At.FACTOR, 'R');
        } else {
            open.pop();
            endTest();
        }
    }

    private void test() {
        if (isOneOf("(!", sign())) {
            goDeeper(At.TEST);
        } else {
            open.push('L');
            at = At.FACTOR;
        }
    }

    /** A ! is open till its test ends. */
    private void endTest() {
        while (!open.isEmpty() && open.peek() == '!') {
            open.pop();
        }
        at = At.BEHIND_TEST;
    }

    private void behindTest() {
        if (isOneOf("&|", sign())) {
            go("&|", At.TEST, ' ');
            return;
        }
        go(")", At.BEHIND_TEST, ' ');
        open.pop();
        if (open.isEmpty()) {
            at = At.BEHIND_RULE;
        } else {
            endTest();
        }
    }

    /** Rooms with guests are told as bits; none of them is changed for who asks. */
    static int register(String text, int guests) {
        int inRooms = guests;
        int start = 0;
        for (int lines = 0; ; lines++) {
            int end = text.indexOf(';', start);
            String line = text.substring(start, end < 0 ? text.length() : end);
            int answer = line(line, lines, inRooms);
            if (answer < 0) {
                return answer - start;
            }
            inRooms = answer;
            if (end < 0) {
                return lines + 1;
            }
            start = end + 1;
        }
    }

    /** The rooms with guests behind a line, or its fault, whose place counts from its own first sign. */
    private static int line(String line, int linesAhead, int guests) {
        if (!isDigit(line.isEmpty() ? END : line.charAt(0))) {
            return -1000;
        }
        if (linesAhead == 20) {
            return -4000;
        }
        int signAt = behindDigits(line, 0);
        int room = room(line, 0, signAt);
        if (room < 0) {
            return room;
        }
        if (signAt == line.length() || !isOneOf("=!os<|>@", line.charAt(signAt))) {
            return -1000 - signAt;
        }
        char sign = line.charAt(signAt);
        int end = isOneOf("=@", sign) ? behindDigits(line, signAt + 1) : signAt + 1;
        if (isOneOf("=@", sign) && end == signAt + 1) {
            return -1000 - end;
        }
        if (sign == '=' && end - signAt > 5) {
            return -2000 - signAt - 5;
        }
        int other = sign == '@' ? room(line, signAt + 1, end) : room;
        if (other < 0) {
            return other;
        }
        boolean isAny = ((guests >> room | guests >> other) & 1) == 1;
        if (isOneOf("!@", sign) && !isAny) {
            return -7000 - signAt;
        }
        return end < line.length() ? -1000 - end : behindLine(sign, room, other, guests);
    }

    private static int behindLine(char sign, int room, int other, int guests) {
        if (sign == '=') {
            return guests | 1 << room;
        }
        if (sign == '!') {
            return guests & ~(1 << room);
        }
        boolean isOneAlone = (guests >> room & 1) != (guests >> other & 1);
        return isOneAlone ? guests ^ 1 << room ^ 1 << other : guests;
    }

    private static int behindDigits(String line, int start) {
        int end = start;
        while (end < line.length() && isDigit(line.charAt(end))) {
            end++;
        }
        return end;
    }

    private static int room(String line, int start, int end) {
        if (end - start > 2) {
            return -2000 - start - 2;
        }
        int room = Integer.parseInt(line.substring(start, end));
        return room > 23 ? -3000 - start : room;
    }

    /** By the place in a letter: 0 its row comes, 1 in it, 2 its column comes, 3 in it, 4 behind a dot, 5 behind two. */
    static int taps(String text) {
        int[] behindTap = {1, 1, 3, 3, -1, 1};
        int[] behindDot = {-1, 2, -1, 4, 5, -3};
        int now = 0;
        int letters = 0;
        int row = 0;
        for (int i = 0; i < text.length(); i++) {
            char sign = text.charAt(i);
            int next = sign == 'x' ? behindTap[now] : sign == '.' ? behindDot[now] : -1;
            row = sign == 'x' ? row + 1 : 0;
            if (next < 0 || row == 6) {
                return 1000 * (row == 6 ? -2 : next) - i;
            }
            letters += next == 3 && now == 2 ? 1 : 0;
            now = next;
        }
        return now == 3 ? letters : -1000 - text.length();
    }
}
