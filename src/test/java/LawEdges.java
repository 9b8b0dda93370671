/** The edges of a law's text: how long it may be, what can stand where, and its faults. */
final class LawEdges {
    private static final String DIGITS = "0123456789";
    private static final String FACTOR = DIGITS + "rspfwgah[";
    private static final String SIGNS = "+-*/%";
    private static final String TEST = FACTOR + "!(";

    private LawEdges() {
    }

    static void all() {
        bytes();
        blanks();
        whatCanStand();
        theEnd();
        rules();
        sixthDigit();
        seventhOpen();
        openTill();
        theFirstFromTheLeft();
        theOneBeforeStays();
        manyLaws();
    }

    private static int answer(String text) {
        return Due.law(new GrilleHotel(), text);
    }

    private static void due(String text, int due) {
        Due.is(text, answer(text), due);
    }

    private static void bytes() {
        Doc.says(6, "THE LAW: a TEXT of at most 240 bytes, no blanks (none at first)");
        Doc.says(6, "THE LAW by the first n bytes of the tape (1 to 240; empty then), in place of the one before: how many RULES");
        String full = "x(11=11" + "&1=1".repeat(58) + ")";
        Due.is("the longest has 240", full.length(), 240);
        due(full, 1);
        Due.is("239", answer(full.substring(0, 239)), -1239);
        Due.is("241", answer(full + " "), -1);
        Due.is("one", answer("x"), -1001);
        GrilleHotel h = new GrilleHotel();
        Doc.bounds("law(n)", n -> {
            h.check(0);
            Due.feed(h, full + "xxxx");
            return h.law(n);
        }, 1, 240, -1);
        Due.is("the one that was taken", h.count(4), 1);
        Doc.says(6, "NONE: no such n, it has not so many (the tape stays).");
        h.check(0);
        Due.feed(h, "x(1=1);x(1=2);x(1=3)");
        Due.is("one more than it has", h.law(21), -1);
        Due.is("the tape stays", h.count(5), 20);
        Due.is("n 0", h.law(0), -1);
        Due.is("the tape stays", h.count(5), 20);
        Due.is("as many as it has", h.law(20), 3);
        Due.is("empty then", h.count(5), 0);
        Due.is("has none", h.law(1), -1);
        Due.is("the law stays", h.count(4), 3);
        Due.feed(h, "x(1=1);x(1=2);x(1=3)");
        Due.is("the first n alone", h.law(13), 2);
        Due.is("those behind are gone, too", h.count(5), 0);
    }

    private static void blanks() {
        Doc.says(6, "THE LAW: a TEXT of at most 240 bytes, no blanks");
        String[] texts = {" c5(r=r)", "c 5(r=r)", "c5 (r=r)", "c5( r=r)", "c5(r =r)", "c5(r= r)", "c5(r=r )", "c5(r=r) ",
            "c5(r=r); x(1=1)", "c5 5(r=r)", "c5(! r=r)", "c[ 5](r=r)", "c[5 ](r=r)"};
        int[] dues = {-1000, -1001, -1002, -1003, -1004, -1005, -1006, -1007, -1008, -1002, -1004, -1002, -1003};
        for (int i = 0; i < texts.length; i++) {
            due(texts[i], dues[i]);
        }
    }

    /** Every byte behind such a beginning: behind one that can stand there the end is the fault, else it itself. */
    private static void behind(String start, String fine) {
        for (int sign = 0; sign < 256; sign++) {
            boolean isFine = fine.indexOf(sign) >= 0;
            int place = isFine ? start.length() + 1 : start.length();
            Due.is(start + " and the byte " + sign, answer(start + (char) sign), -1000 - place);
        }
    }

    private static void whatCanStand() {
        Doc.says(6, "FAULTS, the first from the left: 1 what can't stand there (the end, too); 2 a sixth digit");
        behind("", "ckdx");
        behind("c", FACTOR);
        behind("k", FACTOR);
        behind("d", FACTOR);
        behind("x", "(");
        behind("c5", DIGITS + SIGNS + "(");
        behind("cr", SIGNS + "(");
        behind("c5+", FACTOR);
        behind("c5%", FACTOR);
        behind("c[", FACTOR);
        behind("c[5", DIGITS + SIGNS + "]");
        behind("c[r", SIGNS + "]");
        behind("c[5]", SIGNS + "(");
        behind("c5(", TEST);
        behind("x(", TEST);
        behind("x(r", SIGNS + "<>=");
        behind("x(5", DIGITS + SIGNS + "<>=");
        behind("x([r]", SIGNS + "<>=");
        behind("x([r", SIGNS + "]");
        behind("x(r<", FACTOR);
        behind("x(r>", FACTOR);
        behind("x(r=", FACTOR);
        behind("x(r=r&", TEST);
        behind("x(r=r|", TEST);
        behind("x(!", TEST);
        behind("x((", TEST);
        behind("x((r=r", SIGNS + "&|)");
        behind("x(!(r=r", SIGNS + "&|)");
        behind("x(((r=r)", "&|)");
        behind("x(r=r);", "ckdx");
        behind("x(r=r)", ";");
        lastOf("x(r=r", SIGNS + "&|");
        lastOf("x(r=5", DIGITS + SIGNS + "&|");
        lastOf("x(r=[5]", SIGNS + "&|");
        lastOf("x((r=r)", "&|");
        lastOf("x(!(r=r)", "&|");
        lastOf("x(!r=r", SIGNS + "&|");
    }

    /** As above, where a ) makes a whole law of it. */
    private static void lastOf(String start, String fine) {
        for (int sign = 0; sign < 256; sign++) {
            boolean isFine = fine.indexOf(sign) >= 0;
            int fault = -1000 - (isFine ? start.length() + 1 : start.length());
            Due.is(start + " and the byte " + sign, answer(start + (char) sign), sign == ')' ? 1 : fault);
        }
    }

    private static void theEnd() {
        Doc.says(6, "1 what can't stand there (the end, too); 2 a sixth digit");
        String whole = "c1+[2*r](!s=5&(p<1|f>2))";
        due(whole, 1);
        for (int n = 1; n < whole.length(); n++) {
            due(whole.substring(0, n), -1000 - n);
        }
        due(whole + ";", -1000 - whole.length() - 1);
    }

    private static void rules() {
        Doc.says(6, "RULES (16 at most) with a ; (59) between two");
        for (int n : new int[] {1, 2, 15, 16}) {
            due("x(1=1)" + ";x(1=1)".repeat(n - 1), n);
        }
        due("x(1=1):x(1=1)", -1006);
        due("x(1=1)<x(1=1)", -1006);
        due("x(1=1)x(1=1)", -1006);
        due("x(1=1);;x(1=1)", -1007);
        Doc.says(6, "a letter, E, and (C), of x only (C)");
        due("c(1=1)", -1001);
        due("k(1=1)", -1001);
        due("d(1=1)", -1001);
        due("x5(1=1)", -1001);
        Doc.says(6, "4 a 17th RULE, at its letter (if that can stand there)");
        String sixteen = "x(1=1)" + ";x(1=1)".repeat(15);
        due(sixteen, 16);
        for (int sign = 0; sign < 256; sign++) {
            int due = "ckdx".indexOf(sign) >= 0 ? -4112 : -1112;
            Due.is("a 17th by the byte " + sign, answer(sixteen + ";" + (char) sign), due);
        }
        due(sixteen + ";", -1112);
        due(sixteen + ";x(1=1)", -4112);
        Due.is("a fault in the 16th is ahead of it", answer("x(1=1)" + ";x(1=1)".repeat(14) + ";x(1=);x(1=1)"), -1109);
        theSixteenthCounts();
    }

    private static void theSixteenthCounts() {
        String fifteen = "c9(1=2);".repeat(15);
        Due.is("a 16th rule of c", Due.hotel(fifteen + "c7(1=1)", 0, 50).tried(1, 2), 7);
        fifteen = "x(1=2);".repeat(14) + "c9(1=1);";
        Due.is("a 16th rule of x", Due.hotel(fifteen + "x(1=1)", 0, 50).tried(1, 2), 0);
    }

    private static void sixthDigit() {
        Doc.says(6, "a number of one to five digits");
        String[] texts = {"c0(1=1)", "c00000(1=1)", "c99999(1=1)", "x(99999=00000)", "c[12345](1=1)"};
        for (String text : texts) {
            due(text, 1);
        }
        Doc.says(6, "2 a sixth digit, at it");
        String[] longer = {"c000000(1=1)", "c000000", "c0000000", "c999999(1=1)", "x(000000=1)", "x(1=000000)",
            "c1+000000(1=1)", "c[000000](1=1)", "x(1=1);c000000"};
        int[] dues = {-2006, -2006, -2006, -2006, -2007, -2009, -2008, -2007, -2013};
        for (int i = 0; i < longer.length; i++) {
            due(longer[i], dues[i]);
        }
    }

    private static void seventhOpen() {
        Doc.says(6, "5 a seventh of ( [ ! that are open in one another, at it (the ( of the RULE counts");
        String[] kinds = {"(", "[", "!"};
        for (String kind : kinds) {
            Due.is("a sixth, " + kind, answer("x(" + kind.repeat(5)), -1007);
            Due.is("a seventh, " + kind, answer("x(" + kind.repeat(6)), -5007);
            for (String first : new String[] {"(", "!"}) {
                Due.is("a sixth, " + first + kind, answer("x(" + first.repeat(4) + kind), -1007);
                Due.is("a seventh, " + first + kind, answer("x(" + first.repeat(5) + kind), -5007);
            }
        }
        due("x((((((1=1))))))", 1);
        due("x(!!!!!1=1)", 1);
        due("x([[[[[1]]]]]=1)", 1);
        due("x(1=[[[[[1]]]]])", 1);
        due("x(1=[[[[[[1]]]]]])", -5009);
        due("x(!(!(!1=1)))", 1);
        due("x(!(!(!(1=1))))", -5007);
        due("x(!(!(!1=[1])))", -5009);
        due("x(!(!([1]=1)))", 1);
        Due.is("what can't stand there is no seventh", answer("x((((((1(=1))))))"), -1008);
        Due.is("nor is a ] or )", answer("x(((((()"), -1007);
        Doc.says(6, "the E of a RULE stands ahead of it)");
        due("c[[[[[[1]]]]]](1=1)", 1);
        due("c[[[[[[[1]]]]]]](1=1)", -5007);
        due("c[[[[[[1]]]]]](!!!!!1=1)", 1);
        due("c[[[[[[1]]]]]](!!!!!!1=1)", -5020);
    }

    private static void openTill() {
        Doc.says(6, "a ! is open till its TEST ends");
        due("x(!!!!!1=1&!!!!!1=1)", 1);
        due("x(!!!!!1=1&(((((1=1))))))", 1);
        due("x(!!!!!1=1|[[[[[1]]]]]=1)", 1);
        due("x(!!!!!1=1&!!!!!!1=1)", -5016);
        Due.is("it is open in the E behind its = ", answer("x(!!!!!1=[1])"), -5009);
        Due.is("it is open in the E ahead of it", answer("x(!!!!![1]=1)"), -5007);
        Due.is("one fewer is fine", answer("x(!!!!1=[1])"), 1);
        Due.is("it ends with its (C)", answer("x(!!!!(1=1)&((((1=1)))))"), 1);
        Due.is("a ( is open till its )", answer("x((((((1=1)))))&(((((1=1))))))"), 1);
        Due.is("a ( within it counts", answer("x((1=1&(((((1=1)))))))"), -5011);
        Due.is("a [ is open till its ]", answer("x([[[[[1]]]]]+[[[[[1]]]]]=[[[[[1]]]]])"), 1);
        Due.is("a [ within it counts", answer("x([1+[[[[[1]]]]]]=1)"), -5009);
        Due.is("each rule counts for itself", answer("x(!!!!!1=1);x(!!!!!1=1)"), 2);
    }

    private static void theFirstFromTheLeft() {
        Doc.says(6, "FAULTS, the first from the left: 1 what can't stand there");
        due("c000000(z=1)", -2006);
        due("cz+000000(1=1)", -1001);
        due("c1(!!!!!!1=000000)", -5008);
        due("c1(000000=1&!!!!!!1=1)", -2008);
        due("c1(z=1);c000000", -1003);
    }

    private static void theOneBeforeStays() {
        Doc.says(6, "a FAULT: -1000 times its number, less its place (the one before stays)");
        String sixteen = "x(1=1)" + ";x(1=1)".repeat(15);
        String[] texts = {"z", "c1(1=1);", "c000000", sixteen + ";c", "x(!!!!!!1=1)"};
        int[] dues = {-1000, -1008, -2006, -4112, -5007};
        for (int i = 0; i < texts.length; i++) {
            GrilleHotel h = Due.hotel("c7(s>0);k2(p=4)", 0, 50);
            Due.is(texts[i], Due.law(h, texts[i]), dues[i]);
            Due.is("empty then", h.count(5), 0);
            Due.is("its rules", h.count(4), 2);
            State.same(texts[i], h, Due.hotel("c7(s>0);k2(p=4)", 0, 50));
        }
        GrilleHotel none = Due.hotel("", 0, 50);
        Due.is("a fault without one before", Due.law(none, "c9(1=1);z"), -1008);
        Due.is("there is still none", none.count(4), 0);
        Due.is("there is still none", none.tried(1, 2), 0);
        Doc.says(6, "in place of the one before: how many RULES");
        GrilleHotel h = Due.hotel("c7(1=1);x(r=1)", 0, 50, 1, 50);
        Due.is("the new one", Due.law(h, "c9(r=1)"), 1);
        Due.is("its rules", h.count(4), 1);
        Due.is("nothing of the old one holds", h.tried(1, 2), 9);
        String[] older = {"x(1=1);x(1=1)", "c1(1=2);c9(1=1);c9(1=1)", "x(1=1)" + ";x(1=1)".repeat(15)};
        for (String old : older) {
            GrilleHotel many = Due.hotel(old, 0, 50);
            for (String law : new String[] {"c5+1(1=1)", "x(1=2);c5+1(1=1)", "c5+1(1=1);k0(1=1)", "c5+1(1=1)"}) {
                Due.is(law, Due.law(many, law) > 0, true);
                Due.is(law + " behind " + old, many.tried(1, 2), 6);
            }
        }
    }

    /** Long laws one behind the other: none is in the next one's way. */
    private static void manyLaws() {
        Doc.says(6, "in place of the one before");
        GrilleHotel h = Due.hotel("", 0, 50);
        String tests = "&1=1".repeat(40);
        for (int i = 1; i <= 20; i++) {
            String law = "c" + i + "(1=1" + tests + ");k1(1=2)";
            Due.is(law, Due.law(h, law), 2);
            Due.is("what it sends up", h.tried(1, 2), i);
            Due.is("a fault", Due.law(h, "c50(1=1" + tests + "z"), -1167);
            Due.is("what it still sends up", h.tried(1, 2), i);
        }
    }
}
