import java.math.BigInteger;
import java.util.ArrayList;
import java.util.Arrays;
import java.util.HashMap;
import java.util.List;
import java.util.Map;
import java.util.TreeMap;

/** The document once more, told as plainly as can be with the whole library, to set the class against. */
final class Model {
    static final class Fault extends RuntimeException {
        final int answer;

        Fault(int number, int place) {
            super("", null, false, false);
            answer = -1000 * number - place;
        }
    }

    static final class Refused extends RuntimeException {
        Refused() {
            super("", null, false, false);
        }
    }

    static final class Person {
        int sins;
        final Map<Integer, Integer> feels = new TreeMap<>();

        Person copy() {
            Person other = new Person();
            other.sins = sins;
            other.feels.putAll(feels);
            return other;
        }

        int all() {
            return feels.values().stream().mapToInt(Integer::intValue).sum();
        }
    }

    static final class World {
        final Person[] people = new Person[24];
        final boolean[] open = new boolean[24];
        final int[] louvre = new int[24];
        final int[] grease = new int[24];
        int cowl;
        int hour;
        long x = 1;

        World() {
            Arrays.fill(open, true);
            Arrays.fill(louvre, 1);
        }

        World copy() {
            World w = new World();
            for (int r = 0; r < 24; r++) {
                w.people[r] = people[r] == null ? null : people[r].copy();
                w.open[r] = open[r];
                w.louvre[r] = louvre[r];
                w.grease[r] = grease[r];
            }
            w.cowl = cowl;
            w.hour = hour;
            w.x = x;
            return w;
        }

        int all(int r) {
            return people[r] == null ? 0 : people[r].all();
        }

        int of(int r, int q) {
            return people[r] == null ? 0 : people[r].feels.getOrDefault(q, 0);
        }

        boolean active(int r) {
            return people[r] != null && open[r];
        }

        List<Integer> way(int r) {
            List<Integer> way = new ArrayList<>();
            int column = r % 4;
            int last = r;
            for (int floor = r / 4 + 1; floor <= 5; floor++) {
                column = column + louvre[last] - 1;
                if (column < 0) {
                    column = 0;
                }
                if (column > 3) {
                    column = 3;
                }
                last = floor * 4 + column;
                way.add(last);
            }
            return way;
        }
    }

    static final class View {
        World world;
        int r;
        int p;
        int a;
    }

    interface Num {
        int of(View v);
    }

    interface Cond {
        boolean of(View v);
    }

    record Rule(char kind, Num amount, Cond cond) {
    }

    World world = new World();
    World kept = null;
    List<Rule> rules = new ArrayList<>();
    List<Integer> tape = new ArrayList<>();
    int outSum;
    int settledSum;
    int topSum;

    boolean room(int r) {
        return r >= 0 && r <= 23;
    }

    String take(int n) {
        StringBuilder text = new StringBuilder();
        for (int i = 0; i < n; i++) {
            text.append((char) (int) tape.get(i));
        }
        tape.clear();
        return text.toString();
    }

    boolean guest(int r, int sins) {
        if (!room(r) || sins < 0 || sins > 9999) {
            return false;
        }
        world.people[r] = new Person();
        world.people[r].sins = sins;
        return true;
    }

    boolean grille(int r, boolean open) {
        if (!room(r)) {
            return false;
        }
        world.open[r] = open;
        return true;
    }

    boolean louvre(int r, int set) {
        if (!room(r) || set < 0 || set > 2) {
            return false;
        }
        world.louvre[r] = set;
        return true;
    }

    int feed(int... words) {
        if (tape.size() + 20 > 260) {
            return -1;
        }
        for (int word : words) {
            for (int i = 3; i >= 0; i--) {
                tape.add(word >>> 8 * i & 255);
            }
        }
        return tape.size();
    }

    int law(int n) {
        if (n < 1 || n > 240 || n > tape.size()) {
            return -1;
        }
        try {
            rules = new Parser(take(n)).rules();
            return rules.size();
        } catch (Fault fault) {
            return fault.answer;
        }
    }

    /** Reads a law sign by sign; what stands open is counted by a field that goes up and down. */
    static final class Parser {
        final String text;
        int i = 0;
        int open = 0;

        Parser(String text) {
            this.text = text;
        }

        char look() {
            return i < text.length() ? text.charAt(i) : '\uffff';
        }

        boolean is(String signs) {
            return i < text.length() && signs.indexOf(look()) >= 0;
        }

        char next(String signs) {
            if (!is(signs)) {
                throw new Fault(1, i);
            }
            return text.charAt(i++);
        }

        List<Rule> rules() {
            List<Rule> found = new ArrayList<>();
            do {
                if (!found.isEmpty()) {
                    next(";");
                }
                if (is("ckdx") && found.size() == 16) {
                    throw new Fault(4, i);
                }
                char kind = next("ckdx");
                Num amount = kind == 'x' ? null : sum();
                enter("(");
                Cond cond = any();
                leave(")");
                found.add(new Rule(kind, amount, cond));
            } while (i < text.length());
            return found;
        }

        void enter(String sign) {
            if (is(sign) && open == 6) {
                throw new Fault(5, i);
            }
            next(sign);
            open++;
        }

        void leave(String sign) {
            next(sign);
            open--;
        }

        Cond any() {
            List<Cond> parts = new ArrayList<>(List.of(every()));
            while (is("|")) {
                next("|");
                parts.add(every());
            }
            return v -> {
                for (Cond part : parts) {
                    if (part.of(v)) {
                        return true;
                    }
                }
                return false;
            };
        }

        Cond every() {
            List<Cond> tests = new ArrayList<>(List.of(test()));
            while (is("&")) {
                next("&");
                tests.add(test());
            }
            return v -> {
                for (Cond test : tests) {
                    if (!test.of(v)) {
                        return false;
                    }
                }
                return true;
            };
        }

        Cond test() {
            if (is("!")) {
                enter("!");
                Cond inner = test();
                open--;
                return v -> !inner.of(v);
            }
            if (is("(")) {
                enter("(");
                Cond inner = any();
                leave(")");
                return inner;
            }
            Num one = sum();
            char sign = next("<>=");
            Num two = sum();
            return v -> {
                int a = one.of(v);
                int b = two.of(v);
                return sign == '<' ? a < b : sign == '>' ? a > b : a == b;
            };
        }

        Num sum() {
            Num so = product();
            while (is("+-")) {
                char sign = next("+-");
                Num before = so;
                Num more = product();
                so = sign == '+' ? v -> before.of(v) + more.of(v) : v -> before.of(v) - more.of(v);
            }
            return so;
        }

        Num product() {
            Num so = factor();
            while (is("*/%")) {
                char sign = next("*/%");
                Num before = so;
                Num more = factor();
                so = v -> join(sign, before.of(v), more.of(v));
            }
            return so;
        }

        static int join(char sign, int a, int b) {
            if (sign == '*') {
                return (int) ((long) a * b);
            }
            if (b == 0) {
                throw new Refused();
            }
            return (int) (sign == '/' ? (long) a / b : (long) a % b);
        }

        Num factor() {
            if (is("[")) {
                enter("[");
                Num inner = sum();
                leave("]");
                return inner;
            }
            if (is("0123456789")) {
                int start = i;
                while (is("0123456789")) {
                    if (i - start == 5) {
                        throw new Fault(2, i);
                    }
                    i++;
                }
                int value = Integer.parseInt(text.substring(start, i));
                return v -> value;
            }
            char letter = next("rspfwgah");
            return switch (letter) {
                case 'r' -> v -> v.r;
                case 's' -> v -> v.world.people[v.r].sins;
                case 'p' -> v -> v.p;
                case 'f' -> v -> v.p / 4;
                case 'w' -> v -> v.world.all(v.p);
                case 'g' -> v -> v.world.grease[v.p];
                case 'a' -> v -> v.a;
                default -> v -> v.world.hour % 24;
            };
        }
    }

    boolean holds(Rule rule, View v) {
        try {
            return rule.cond.of(v);
        } catch (Refused refused) {
            return false;
        }
    }

    int ask(char kind, int most, World w, int r, int p, int a) {
        View v = new View();
        v.world = w;
        v.r = r;
        v.p = p;
        v.a = a;
        for (Rule rule : rules) {
            if (rule.kind == kind && holds(rule, v)) {
                if (kind == 'x') {
                    return 1;
                }
                try {
                    return Math.max(0, Math.min(most, rule.amount.of(v)));
                } catch (Refused refused) {
                    return 0;
                }
            }
        }
        return 0;
    }

    void run(World w, int n) {
        outSum = 0;
        settledSum = 0;
        topSum = 0;
        for (int i = 0; i < n; i++) {
            if (w.hour == 99999) {
                return;
            }
            for (int r = 0; r < 24; r++) {
                if (w.active(r) && w.people[r].sins > 0 && ask('x', 1, w, r, r, 0) == 0) {
                    send(w, r);
                }
            }
            w.hour++;
        }
    }

    void send(World w, int r) {
        int a = Math.min(ask('c', 99, w, r, r, 0), w.people[r].sins);
        if (a == 0) {
            return;
        }
        w.people[r].sins -= a;
        for (int p : w.way(r)) {
            int k = Math.min(a, ask('k', 99, w, r, p, a));
            w.grease[p] = Math.min(99999, w.grease[p] + k);
            settledSum += k;
            a -= k;
            if (a == 0) {
                return;
            }
            if (w.active(p)) {
                w.x = (w.x * 25173 + 13849) % 65536;
                if (w.x % 10 < ask('d', 10, w, r, p, a)) {
                    w.people[p].feels.put(r, Math.min(99999, w.of(p, r) + a));
                    outSum += a;
                    return;
                }
            }
        }
        topSum += a;
        w.cowl = Math.min(999999, w.cowl + a);
    }

    int register(int n) {
        if (n < 1 || n > 120 || n > tape.size()) {
            return -1;
        }
        World draft = world.copy();
        try {
            int lines = new Lines(take(n), draft).all();
            world = draft;
            return lines;
        } catch (Fault fault) {
            return fault.answer;
        }
    }

    static final class Lines {
        final String text;
        final World w;
        int i = 0;

        Lines(String text, World w) {
            this.text = text;
            this.w = w;
        }

        boolean digit() {
            return i < text.length() && Character.isDigit(text.charAt(i));
        }

        int number(int most) {
            if (!digit()) {
                throw new Fault(1, i);
            }
            int start = i;
            while (digit()) {
                if (i == start + most) {
                    throw new Fault(2, i);
                }
                i++;
            }
            return Integer.parseInt(text.substring(start, i));
        }

        int room() {
            int start = i;
            int r = number(2);
            if (r > 23) {
                throw new Fault(3, start);
            }
            return r;
        }

        int all() {
            int lines = 0;
            while (true) {
                if (lines == 20 && digit()) {
                    throw new Fault(4, i);
                }
                line();
                lines++;
                if (i == text.length()) {
                    return lines;
                }
                if (text.charAt(i) != ';') {
                    throw new Fault(1, i);
                }
                i++;
            }
        }

        void line() {
            int r = room();
            int at = i;
            char sign = i < text.length() ? text.charAt(i) : '?';
            if ("=!os<|>@".indexOf(sign) < 0) {
                throw new Fault(1, i);
            }
            i++;
            if (sign == '=') {
                Person person = new Person();
                person.sins = number(4);
                w.people[r] = person;
            } else if (sign == '!') {
                if (w.people[r] == null) {
                    throw new Fault(7, at);
                }
                w.people[r] = null;
            } else if (sign == '@') {
                int q = room();
                if (w.people[r] == null && w.people[q] == null) {
                    throw new Fault(7, at);
                }
                Person one = w.people[r];
                w.people[r] = w.people[q];
                w.people[q] = one;
            } else if (sign == 'o' || sign == 's') {
                w.open[r] = sign == 'o';
            } else {
                w.louvre[r] = "<|>".indexOf(sign);
            }
        }
    }

    int hours(int n) {
        if (n < 1 || n > 240) {
            return -1;
        }
        run(world, n);
        return outSum;
    }

    int tried(int n, int what) {
        boolean fine = what >= 0 && what <= 3 || what >= 100 && what <= 123;
        if (n < 1 || n > 240 || !fine) {
            return -1;
        }
        World w = world.copy();
        run(w, n);
        if (what == 0) {
            return outSum;
        }
        if (what == 1) {
            return settledSum;
        }
        if (what == 2) {
            return topSum;
        }
        return what == 3 ? sins(w) : w.all(what - 100);
    }

    int sins(World w) {
        int sum = 0;
        for (Person person : w.people) {
            sum += person == null ? 0 : person.sins;
        }
        return sum;
    }

    int roomIs(int r, int what) {
        if (!room(r) || what < 0 || what > 7) {
            return -1;
        }
        int best = -2;
        int most = 0;
        for (int q = 23; q >= 0; q--) {
            if (world.of(r, q) > 0 && world.of(r, q) >= most) {
                most = world.of(r, q);
                best = q;
            }
        }
        Person person = world.people[r];
        int[] all = {person == null ? -2 : person.sins, person == null ? 0 : 1, world.open[r] ? 1 : 0, world.louvre[r],
            world.grease[r], world.all(r), most, best};
        return all[what];
    }

    int feels(int r, int of) {
        return room(r) && room(of) ? world.of(r, of) : -1;
    }

    int way(int r, int i) {
        if (!room(r)) {
            return -1;
        }
        List<Integer> way = world.way(r);
        way.add(24);
        return i < 0 || i >= way.size() ? -2 : way.get(i);
    }

    int odds(int r, int to, int tenths, int what) {
        if (!room(r) || to < 0 || to > 24 || tenths < 0 || tenths > 10 || what < 0 || what > 1) {
            return -1;
        }
        BigInteger up = BigInteger.ZERO;
        BigInteger still = BigInteger.ONE;
        BigInteger million = BigInteger.valueOf(1000000);
        int power = 0;
        for (int p : world.way(r)) {
            int here = world.active(p) ? tenths : 0;
            if (p == to) {
                up = still.multiply(BigInteger.valueOf(here)).multiply(BigInteger.TEN.pow(5 - power));
            }
            still = still.multiply(BigInteger.valueOf(10 - here));
            power++;
        }
        if (to == 24) {
            up = still.multiply(BigInteger.TEN.pow(6 - power));
        }
        BigInteger common = up.gcd(million);
        return (what == 0 ? up : million).divide(common).intValue();
    }

    int fromWhere(int r) {
        if (!room(r)) {
            return -1;
        }
        int bits = 0;
        for (int q = 0; q < 24; q++) {
            bits |= world.way(q).contains(r) ? 1 << q : 0;
        }
        return bits;
    }

    int meet(int r, int q) {
        if (!room(r) || !room(q)) {
            return -1;
        }
        List<Integer> one = world.way(r);
        one.add(0, r);
        List<Integer> two = world.way(q);
        two.add(0, q);
        for (int p : one) {
            if (two.contains(p)) {
                return p;
            }
        }
        return -2;
    }

    int cowls() {
        return (int) java.util.stream.IntStream.range(0, 4).map(r -> world.way(r).get(4)).distinct().count();
    }

    /** Every row of columns from r to a room, in order. */
    List<int[]> rows(int r, int to) {
        List<int[]> rows = new ArrayList<>();
        grow(rows, new int[to / 4 - r / 4], 0, r % 4, to % 4);
        return rows;
    }

    void grow(List<int[]> rows, int[] row, int i, int column, int last) {
        if (i == row.length) {
            if (column == last) {
                rows.add(row.clone());
            }
            return;
        }
        for (int c = 0; c < 4; c++) {
            if (Math.abs(c - column) <= 1) {
                row[i] = c;
                grow(rows, row, i + 1, c, last);
            }
        }
    }

    int turns(int r, int[] row) {
        int turned = 0;
        int at = r;
        for (int c : row) {
            int next = (at / 4 + 1) * 4 + c;
            turned += world.way(at).get(0) == next ? 0 : 1;
            at = next;
        }
        return turned;
    }

    int turn(int r, int to, int what) {
        if (!room(r) || !room(to) || to / 4 <= r / 4 || what != 100 && (what < 0 || what > 4)) {
            return -1;
        }
        int[] best = null;
        for (int[] row : rows(r, to)) {
            if (best == null || turns(r, row) < turns(r, best)) {
                best = row;
            }
        }
        if (best == null) {
            return -2;
        }
        if (what == 100) {
            return turns(r, best);
        }
        return what < best.length ? best[what] : -4;
    }

    int ways(int r, int to) {
        return !room(r) || !room(to) || to / 4 <= r / 4 ? -1 : rows(r, to).size();
    }

    int stockings(int rooms, int what) {
        if (rooms < 0 || rooms >= 1 << 24 || what < 0 || what > 1) {
            return -1;
        }
        List<Integer> pairs = new ArrayList<>();
        int asked = 0;
        for (int r = 0; r < 24; r++) {
            if ((rooms >> r & 1) == 1 && world.active(r)) {
                for (int p : world.way(r)) {
                    if (world.active(p)) {
                        pairs.add(1 << r | 1 << p);
                        asked |= 1 << r | 1 << p;
                    }
                }
            }
        }
        int best = cover(pairs, 0, asked);
        return what == 0 ? Integer.bitCount(best) : best;
    }

    /** Of each pair that is still open either end is shut in its turn; the best of all that come of it. */
    static int cover(List<Integer> pairs, int shut, int best) {
        if (Integer.bitCount(shut) > Integer.bitCount(best)) {
            return best;
        }
        for (int pair : pairs) {
            if ((pair & shut) == 0) {
                int lower = Integer.lowestOneBit(pair);
                int upper = Integer.highestOneBit(pair);
                return cover(pairs, shut | lower, cover(pairs, shut | upper, best));
            }
        }
        return Integer.bitCount(shut) < Integer.bitCount(best) ? shut : Math.min(shut, best);
    }

    long sleep(int n, int rooms, int what) {
        if (n < 1 || n > 6 || rooms < 0 || rooms >= 1 << 24 || Integer.bitCount(rooms) != n || n > tape.size()
            || what != 100 && (what < 0 || what >= n)) {
            return -1;
        }
        String minds = take(n);
        List<Integer> felt = new ArrayList<>();
        for (int r = 0; r < 24; r++) {
            if ((rooms >> r & 1) == 1) {
                felt.add(world.all(r));
            }
        }
        long least = Long.MAX_VALUE;
        String bestRow = null;
        for (String row : orders("012345".substring(0, n))) {
            long sum = 0;
            for (int i = 0; i < n; i++) {
                sum += (long) minds.charAt(row.charAt(i) - '0') * felt.get(i);
            }
            if (sum < least || sum == least && row.compareTo(bestRow) < 0) {
                least = sum;
                bestRow = row;
            }
        }
        return what == 100 ? least : bestRow.charAt(what) - '0';
    }

    static final Map<String, List<String>> ORDERS = new HashMap<>();

    static List<String> orders(String of) {
        List<String> known = ORDERS.get(of);
        if (known == null) {
            known = new ArrayList<>();
            if (of.isEmpty()) {
                known.add("");
            }
            for (int i = of.length() - 1; i >= 0; i--) {
                for (String rest : orders(of.substring(0, i) + of.substring(i + 1))) {
                    known.add(of.charAt(i) + rest);
                }
            }
            ORDERS.put(of, known);
        }
        return known;
    }

    int breakfast(int what) {
        if (what == 100) {
            int best = -2;
            for (int r = 23; r >= 0; r--) {
                if (world.all(r) > 0 && (best == -2 || world.all(r) >= world.all(best))) {
                    best = r;
                }
            }
            return best;
        }
        if (!room(what)) {
            return -1;
        }
        int bits = 0;
        for (int r = 0; r < 24; r++) {
            bits |= world.of(r, what) > 0 ? 1 << r : 0;
        }
        return bits;
    }

    int ropes(int r, int bound, int what) {
        if (!room(r) || bound < 0 || bound > 99999 || what < 0 || what > 1) {
            return -1;
        }
        int[] best = {Integer.MAX_VALUE};
        for (int c = 0; c < 4; c++) {
            swing(20 + c, r, bound, 'd', 1, new boolean[24], best);
        }
        if (best[0] == Integer.MAX_VALUE) {
            return -2;
        }
        return what == 0 ? best[0] / 1000 : best[0] % 1000;
    }

    /** Every way down that passes no place twice; cost has 1000 for a bend, 1 for a place. */
    void swing(int at, int to, int bound, char direction, int cost, boolean[] seen, int[] best) {
        if (seen[at] || world.grease[at] > bound || cost >= best[0]) {
            return;
        }
        if (at == to) {
            best[0] = cost;
            return;
        }
        seen[at] = true;
        if (at >= 4) {
            swing(at - 4, to, bound, 'd', cost + 1 + (direction == 'd' ? 0 : 1000), seen, best);
        }
        if (at % 4 > 0) {
            swing(at - 1, to, bound, 'l', cost + 1 + (direction == 'l' ? 0 : 1000), seen, best);
        }
        if (at % 4 < 3) {
            swing(at + 1, to, bound, 'r', cost + 1 + (direction == 'r' ? 0 : 1000), seen, best);
        }
        seen[at] = false;
    }

    static final String SQUARE = "ABCDEFGHIJLMNOPQRSTUVWXYZ";

    int taps(int n, int what) {
        if (n < 1 || n > 60 || n > tape.size() || what != 100 && (what < 0 || what > 19)) {
            return -1;
        }
        String text = take(n);
        StringBuilder letters = new StringBuilder();
        int i = 0;
        try {
            while (true) {
                int[] two = new int[2];
                for (int k = 0; k < 2; k++) {
                    while (i < n && text.charAt(i) == 'x') {
                        two[k]++;
                        if (two[k] == 6) {
                            throw new Fault(2, i);
                        }
                        i++;
                    }
                    if (two[k] == 0) {
                        throw new Fault(1, i);
                    }
                    if (k == 0) {
                        if (i == n || text.charAt(i) != '.') {
                            throw new Fault(1, i);
                        }
                        i++;
                    }
                }
                letters.append(SQUARE.charAt((two[0] - 1) * 5 + two[1] - 1));
                if (i == n) {
                    break;
                }
                for (int k = 0; k < 2; k++) {
                    if (i == n || text.charAt(i) != '.') {
                        throw new Fault(1, i);
                    }
                    i++;
                }
                if (i < n && text.charAt(i) == '.') {
                    throw new Fault(3, i);
                }
            }
        } catch (Fault fault) {
            return fault.answer;
        }
        if (what == 100) {
            return letters.length();
        }
        return what < letters.length() ? letters.charAt(what) - 'A' : -4;
    }

    int tapped(int n) {
        if (n < 1 || n > 40 || n > tape.size()) {
            return -1;
        }
        String text = take(n).replace('K', 'C');
        StringBuilder taps = new StringBuilder();
        for (int i = 0; i < n; i++) {
            int place = SQUARE.indexOf(text.charAt(i));
            if (place < 0) {
                return -1000 - i;
            }
            taps.append(i == 0 ? "" : "..").append("x".repeat(place / 5 + 1)).append(".").append("x".repeat(place % 5 + 1));
        }
        return taps.length();
    }

    int linen(int n, int weeks, int what) {
        if (n < 1 || n > 24 || n > tape.size() || weeks < 0 || weeks > 1000000
            || what != 100 && what != 101 && (what < 0 || what >= n)) {
            return -1;
        }
        String to = take(n);
        for (int i = 0; i < n; i++) {
            if (to.indexOf((char) i) < 0) {
                return -2;
            }
        }
        if (what == 100) {
            int[] at = new int[n];
            for (int i = 0; i < n; i++) {
                at[i] = i;
            }
            for (int week = 1; ; week++) {
                boolean home = true;
                for (int i = 0; i < n; i++) {
                    at[i] = to.charAt(at[i]);
                    home &= at[i] == i;
                }
                if (home) {
                    return week;
                }
            }
        }
        if (what == 101) {
            boolean[] seen = new boolean[n];
            int rounds = 0;
            for (int i = 0; i < n; i++) {
                rounds += seen[i] ? 0 : 1;
                for (int at = i; !seen[at]; at = to.charAt(at)) {
                    seen[at] = true;
                }
            }
            return rounds;
        }
        int at = what;
        for (int week = 0; week < weeks; week++) {
            at = to.charAt(at);
        }
        return at;
    }

    int dust(int what) {
        if (what < 0 || what > 1) {
            return -1;
        }
        List<Integer> felt = new ArrayList<>();
        int best = -2;
        for (int r = 0; r < 24; r++) {
            if (world.people[r] != null) {
                felt.add(world.all(r));
                if (best == -2 || world.all(r) < world.all(best)) {
                    best = r;
                }
            }
        }
        felt.sort(null);
        return felt.isEmpty() ? -2 : what == 0 ? best : felt.get((felt.size() - 1) / 2);
    }

    boolean seed(int x) {
        if (x < 0 || x > 65535) {
            return false;
        }
        world.x = x;
        return true;
    }

    int keep() {
        kept = world.copy();
        return world.hour;
    }

    boolean undo() {
        if (kept == null) {
            return false;
        }
        world = kept.copy();
        return true;
    }

    int check(int n) {
        if (n < 0 || n > 24 || n > tape.size()) {
            return -2;
        }
        String bytes = take(n);
        for (int r = 0; r < n; r++) {
            int sins = world.people[r] == null ? 0 : world.people[r].sins;
            if (bytes.charAt(r) != sins % 256) {
                return r;
            }
        }
        return -1;
    }

    int count(int what) {
        int guests = 0;
        int open = 0;
        int grease = 0;
        for (int r = 0; r < 24; r++) {
            guests |= world.people[r] != null ? 1 << r : 0;
            open |= world.open[r] ? 1 << r : 0;
            grease += world.grease[r];
        }
        int[] all = {world.hour, world.cowl, guests, open, rules.size(), tape.size(), (int) world.x, sins(world), grease};
        return what < 0 || what >= all.length ? -1 : all[what];
    }
}
