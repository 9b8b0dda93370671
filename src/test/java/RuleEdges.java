/** The edges of what a law's rules say: their bounds, which of them is asked, 32 bits, what is refused, letters. */
final class RuleEdges {
    private RuleEdges() {
    }

    static void all() {
        sent();
        settles();
        tenths();
        fog();
        firstThatHolds();
        parts();
        fromTheLeft();
        bits();
        refused();
        asMuchAsMatters();
        letters();
        lettersBelow();
        hour();
    }

    /** How much goes out at the top in an hour if room 6 alone has a guest, with so many sins. */
    private static int out(int sins, String law) {
        return Due.hotel(law, 6, sins).tried(1, 2);
    }

    private static void holds(String test, boolean due) {
        Due.is("c5(" + test + ")", out(80, "c5(" + test + ")"), due ? 5 : 0);
    }

    private static void sent() {
        Doc.says(6, "c how much is sent up from a ROOM in an HOUR (0 to 99)");
        String[] amounts = {"0-1", "0-99999", "0", "1", "98", "99", "100", "99999", "99999*21475", "99999*21476"};
        int[] dues = {0, 0, 0, 1, 98, 99, 99, 99, 99, 0};
        for (int i = 0; i < amounts.length; i++) {
            Due.is(amounts[i], out(9999, "c" + amounts[i] + "(1=1)"), dues[i]);
        }
    }

    private static void settles() {
        Doc.says(6, "k how much of it settles at a ROOM it passes (0 to 99)");
        String[] amounts = {"0-1", "0-99999", "0", "1", "98", "99", "100", "99999"};
        int[] dues = {0, 0, 0, 1, 98, 99, 99, 99};
        for (int i = 0; i < amounts.length; i++) {
            GrilleHotel h = Due.hotel("c99(1=1);k" + amounts[i] + "(p=10)", 6, 9999);
            Due.is(amounts[i] + " settles", h.tried(1, 1), dues[i]);
            Due.is(amounts[i] + " leaves", h.tried(1, 2), 99 - dues[i]);
            h.hours(1);
            Due.is(amounts[i] + " is there", h.roomIs(10, 4), dues[i]);
        }
    }

    /** A seed whose first draw is that number. */
    private static int seedOf(int draw) {
        for (int x = 0; x < 65536; x++) {
            if ((25173 * x + 13849) % 65536 % 10 == draw) {
                return x;
            }
        }
        return -1;
    }

    private static void tenths() {
        Doc.says(6, "d tenths that it comes out there (0 to 10)");
        String[] amounts = {"0-99999", "0-1", "0", "1", "2", "3", "4", "5", "6", "7", "8", "9", "10", "11", "99999"};
        int[] below = {0, 0, 0, 1, 2, 3, 4, 5, 6, 7, 8, 9, 10, 10, 10};
        for (int draw = 0; draw <= 9; draw++) {
            for (int i = 0; i < amounts.length; i++) {
                GrilleHotel h = Due.hotel("c3(1=1);d" + amounts[i] + "(1=1)", 6, 80, 10, 0);
                h.seed(seedOf(draw));
                Due.is(amounts[i] + " with a draw of " + draw, h.hours(1), draw < below[i] ? 3 : 0);
            }
        }
    }

    private static void fog() {
        Doc.says(6, "x nothing goes up from a ROOM (fog; any will do; without an x in THE LAW there is none)");
        String[] laws = {"c5(1=1)", "c5(1=1);x(1=2)", "c5(1=1);x(1=1)", "x(1=1);c5(1=1)", "x(1=2);c5(1=1);x(1=1)",
            "x(1=1);c5(1=1);x(1=2)", "x(1=2);c5(1=1);x(1=2)", "x(r=7);c5(1=1)", "x(r=6);c5(1=1)"};
        int[] dues = {5, 5, 0, 0, 0, 0, 5, 5, 0};
        for (int i = 0; i < laws.length; i++) {
            Due.is(laws[i], out(80, laws[i]), dues[i]);
        }
    }

    private static void firstThatHolds() {
        Doc.says(6, "of the first RULE of c, k, d whose C holds the E (beyond its bounds the bound; none: 0)");
        String[] laws = {"c5(1=1);c6(1=1)", "c5(1=2);c6(1=1)", "c5(1=2);c6(1=2)", "k5(1=2);c6(1=1)", "c0(1=1);c6(1=1)",
            "c0-9(1=1);c6(1=1)", "d9(1=1);k0(1=1);c6(1=1)", "x(1=2)"};
        int[] dues = {5, 6, 0, 6, 0, 0, 6, 0};
        for (int i = 0; i < laws.length; i++) {
            Due.is(laws[i], out(80, laws[i]), dues[i]);
        }
        Due.is("of k", Due.hotel("c9(1=1);k1(p=11);k2(p=10);k3(1=1)", 6, 80).tried(1, 1), 2 + 3 + 3 + 1);
        Due.is("no k", Due.hotel("c9(1=1);k1(p=11)", 6, 80).tried(1, 1), 0);
        Due.is("of d", Due.hotel("c9(1=1);d0(p=14);d10(p=10);d0(1=1)", 6, 80, 10, 0).tried(1, 0), 9);
        Due.is("no d", Due.hotel("c9(1=1);d10(p=14)", 6, 80, 10, 0).tried(1, 0), 0);
    }

    private static void parts() {
        Doc.says(6, "C: PARTS with a | between two, one of which must hold; a PART: TESTS with an & between two, all of which must");
        String[] tests = {"1=2", "1=1"};
        for (int i = 0; i < 8; i++) {
            boolean a = (i & 1) == 1;
            boolean b = (i & 2) == 2;
            boolean c = (i & 4) == 4;
            String first = tests[i & 1];
            String second = tests[i >> 1 & 1];
            String third = tests[i >> 2];
            holds(first + "|" + second + "|" + third, a || b || c);
            holds(first + "&" + second + "&" + third, a && b && c);
            holds(first + "|" + second + "&" + third, a || b && c);
            holds(first + "&" + second + "|" + third, a && b || c);
            holds("(" + first + "|" + second + ")&" + third, (a || b) && c);
            holds(first + "&(" + second + "|" + third + ")", a && (b || c));
            holds("!" + first + "&" + second + "|!" + third, !a && b || !c);
            holds("!(" + first + "|" + second + ")&!!" + third, !(a || b) && c);
        }
        Doc.says(6, "a TEST: !TEST, (C), or E, one of < > =, and E");
        int[][] pairs = {{1, 2}, {2, 2}, {3, 2}};
        for (int[] pair : pairs) {
            holds(pair[0] + "<" + pair[1], pair[0] < pair[1]);
            holds(pair[0] + ">" + pair[1], pair[0] > pair[1]);
            holds(pair[0] + "=" + pair[1], pair[0] == pair[1]);
            holds("!" + pair[0] + "<" + pair[1], pair[0] >= pair[1]);
        }
        String many = "1=1&".repeat(30);
        holds(many + "1=1", true);
        holds(many + "1=2", false);
        holds("1=2|".repeat(30) + "1=1", true);
        holds("1=2|".repeat(30) + "1=2", false);
    }

    private static void fromTheLeft() {
        Doc.says(6, "E: TERMS with + or - between two; a TERM: FACTORS with one of * / % between two; from the left on");
        String[] amounts = {"20-5-3", "20-5+3", "40/4/2", "40/4*2", "7*9/2", "47%10*2", "47*2%10", "47%10%4", "2+3*4",
            "20-2*3", "[2+3]*4", "20-[5-3]", "40/[4/2]", "9*9/10+1-2*2", "[[5]]"};
        int[] dues = {12, 18, 5, 20, 31, 14, 4, 3, 14, 14, 20, 18, 20, 5, 5};
        for (int i = 0; i < amounts.length; i++) {
            Due.is(amounts[i], out(80, "c" + amounts[i] + "(1=1)"), dues[i]);
        }
    }

    private static void bits() {
        Doc.says(6, "All is reckoned with 32 bits, as the machine does");
        String least = "65536*32768";
        holds(least + "<0", true);
        holds(least + "-1>0", true);
        holds(least + "-1+1<0", true);
        holds(least + "-1=[" + least + "-1]", true);
        holds(least + "*2=0", true);
        holds("65536*65536=0", true);
        holds("65536*65535<0", true);
        holds("99999*99999=14098*10000*10+65409", true);
        holds("[" + least + "]/[0-1]=" + least, true);
        holds("[" + least + "]%[0-1]=0", true);
        holds("[0-7]/2=0-3", true);
        holds("[0-7]%2=0-1", true);
        holds("7/[0-2]=0-3", true);
        holds("7%[0-2]=1", true);
        holds("0-1<0", true);
    }

    private static void refused() {
        Doc.says(6, "what is divided by 0 is REFUSED: then the whole C of the RULE does not hold, the E of it is 0.");
        String[] holding = {"1/1=1", "0/1=0", "1%1=0", "1/[0-1]=0-1", "1%[0-1]=0"};
        for (String test : holding) {
            holds(test, true);
        }
        String[] not = {"1/0=1", "1/0=0", "1%0=0", "!1/0=1", "!!1/0=1", "!(1/0=1)", "0/0=0", "1=1/0", "1/[1-1]=1", "5/r%2=9|1/0=1",
            "1/0=1|1=1", "1=2|1/0=1|1=1", "1=1&1/0=1", "(1/0=1|1=1)", "1=1&(1=2|1/0=1)|1=1", "[1/0]*0=0", "1/[1/0]=0"};
        for (String test : not) {
            holds(test, false);
        }
        String[] laws = {"c5(1/0=1);c6(1=1)", "c5/0(1=1);c6(1=1)", "c5%0(1=1);c6(1=1)", "c5+1/0(1=1)", "c9*[1/0](1=1)",
            "x(1/0=1);c5(1=1)", "x(!1/0=1);c5(1=1)", "x(1/0=1);x(1=1);c5(1=1)", "c5/1(1=1)", "c0/1+5(1=1)", "c5/0(1=2);c6(1=1)"};
        int[] dues = {6, 0, 0, 0, 0, 5, 5, 0, 5, 5, 6};
        for (int i = 0; i < laws.length; i++) {
            Due.is(laws[i], out(80, laws[i]), dues[i]);
        }
        Due.is("of k", Due.hotel("c5(1=1);k3/0(p=10);k2(1=1)", 6, 80).tried(1, 1), 2 + 2 + 1);
        Due.is("of k, C", Due.hotel("c5(1=1);k1(p=10&1/0=1);k2(1=1)", 6, 80).tried(1, 1), 2 + 2 + 1);
        Due.is("of d", Due.hotel("c5(1=1);d9/0(1=1);d10(1=1)", 6, 80, 10, 0).tried(1, 0), 0);
        Due.is("of d, C", Due.hotel("c5(1=1);d9(1/0=1);d10(1=1)", 6, 80, 10, 0).tried(1, 0), 5);
    }

    private static void asMuchAsMatters() {
        Doc.says(6, "Of a C as much is asked, from the left, as matters.");
        String[] tests = {"1=1|1/0=1", "1=2&1/0=1|1=1", "1=1|1=1&1/0=1", "(1=1|1/0=1)&1=1", "!(1=2&1/0=1)", "1=2&(1/0=1)|1=1",
            "1=1&1=2&1/0=1|1=1", "1=1|1/0=1|1/0=1", "(1=2&1/0=1|1=1)&1=1", "!(1=1|1/0=1)|1=1", "1=2&1/0=1&1/0=1|1=1",
            "1=2&!1/0=1|1=1"};
        for (String test : tests) {
            holds(test, true);
        }
        String[] not = {"1=2|1/0=1", "1=1&1/0=1|1=1", "1=2&1=1|1/0=1|1=1", "1=2&1/0=1", "!(1=1|1/0=1)", "1=2|1=1&1/0=1"};
        for (String test : not) {
            holds(test, false);
        }
    }

    /** In room 0, in room 23 and in one between, as all of them are told by numbers. */
    private static void letters() {
        Doc.says(6, "(in c, x: p is r, f its FLOOR, w, g of it, a 0)");
        for (int r : new int[] {0, 6, 20, 23}) {
            String[] tests = {"r=" + r, "s=80", "p=" + r, "f=" + r / 4, "w=0", "g=0", "a=0", "h=0", "s>79&s<81"};
            for (String test : tests) {
                Due.is("in c of " + r + ", " + test, Due.hotel("c5(" + test + ")", r, 80).tried(1, 2), 5);
                Due.is("in x of " + r + ", " + test, Due.hotel("c5(1=1);x(" + test + ")", r, 80).tried(1, 2), 0);
            }
            Due.is("s in c of " + r, Due.hotel("cs(1=1)", r, 80).tried(1, 2), 80);
        }
        GrilleHotel h = Due.hotel("c9(r=0);k3(p=4);d10(p=4)", 0, 9, 4, 80);
        h.hours(1);
        String[] tests = {"w=6", "g=3", "a=0", "f=1", "p=4", "h=1"};
        for (String test : tests) {
            Due.law(h, "c5(r=4&" + test + ")");
            Due.is("in c of 4, " + test, h.tried(1, 2), 5);
        }
    }

    private static void lettersBelow() {
        Doc.says(6, "a letter: r the ROOM from which, s SINS there, p the ROOM that it passes, f the FLOOR of that, w all that p FEELS, g GREASE there, a how much there still is of it");
        GrilleHotel h = Due.hotel("c9(1=1);k3(p=20);d10(p=20)", 0, 80, 20, 0);
        h.hours(1);
        String[] inK = {"r=0", "s=62", "p=20", "f=5", "w=6", "g=3", "a=9", "h=1"};
        for (String test : inK) {
            Due.law(h, "c9(1=1);k4(p=20&" + test + ")");
            Due.is("in k, " + test, h.tried(1, 1), 4);
        }
        String[] inD = {"r=0", "s=62", "p=20", "f=5", "w=6", "g=7", "a=5", "h=1"};
        for (String test : inD) {
            Due.law(h, "c9(1=1);k4(p=20);d10(p=20&" + test + ")");
            Due.is("in d, " + test, h.tried(1, 0), 5);
        }
        GrilleHotel last = Due.hotel("c9(1=1);k4(p=23&r=19&s=71&f=5&a=9);d10(p=23&r=19&g=4&a=5&s=71)", 19, 80, 23, 0);
        Due.is("at 23", last.hours(1), 5);
        Due.is("at 23", last.roomIs(23, 4), 4);
    }

    private static void hour() {
        Doc.says(6, "h THE HOUR modulo 24");
        GrilleHotel h = Due.hotel("", 6, 80);
        int[] hours = {0, 1, 22, 1, 1, 23, 1};
        int[] dues = {0, 1, 23, 0, 1, 0, 1};
        for (int i = 0; i < hours.length; i++) {
            if (hours[i] > 0) {
                h.hours(hours[i]);
            }
            h.guest(6, 80);
            Due.law(h, "c1+h(1=1)");
            Due.is("h in the hour " + h.count(0), h.tried(1, 2), 1 + dues[i]);
        }
    }
}
