/** Promise 6: laws as texts, their faults, and what their parts mean. */
public final class LawTest {
    public static void main(String[] args) {
        fine();
        faults();
        tooMany();
        tooDeep();
        refused();
        meaning();
        letters();
        asMuchAsMatters();
        deepSums();
        Due.end("LawTest");
    }

    private static void fine() {
        GrilleHotel h = new GrilleHotel();
        String[] texts = {"c5(r=r)", "x(1=1)", "k99999(0<1)", "d[r](s>p)", "cr+s-p*f/w%g(a=h)", "x(!1=2)", "x(!!1=1)",
            "x((1=1))", "x((1=1)&(2=2)|!(3=3))", "x([1]<[2])", "c1(1=1);x(1=1);k1(1=1);d1(1=1)", "x(!(1=1)&!2=2)"};
        int[] rules = {1, 1, 1, 1, 1, 1, 1, 1, 1, 1, 4, 1};
        for (int i = 0; i < texts.length; i++) {
            Due.is("6: " + texts[i], Due.law(h, texts[i]), rules[i]);
            Due.is("6: count(4)", h.count(4), rules[i]);
            Due.is("6: empty then", h.count(5), 0);
        }
    }

    private static void faults() {
        GrilleHotel h = new GrilleHotel();
        Due.law(h, "c7(1=1);x(1=2)");
        String[] texts = {"a", "c", "x", "xr(1=1)", "c(1=1)", "c5", "c5(", "c5()", "c5(r", "c5(r=", "c5(r=r", "c5(r=r)a",
            "c5(r=r);", "c5(r=r),c", "c5(r=r);z", "c5+(r=r)", "c5++5(r=r)", "c55555(r=r)", "c555555(r=r)", "c5(r=123456)",
            "c[5(r=r)", "c[](r=r)", "c5](r=r)", "c5(r==r)", "c5(r=r=r)", "c5(!)", "c5(r!=r)", "c5((r=r)", "c5(r=r))",
            "c5(r=r&)", "c5(r=r|)", "c5(r=r||r=r)", "c5((r)=r)", "c5(r=(r))", "c5(rr=r)", "c5r(r=r)", "c-5(r=r)", "C5(r=r)",
            "c5 (r=r)", "c5(r)", "c5(r=r;", "c5[1](r=r)", "c5(r=b)", "c5(r=c)", "c5(r=r!)", "x((r=r)=r)", "c5(r<>r)"};
        int[] dues = {-1000, -1001, -1001, -1001, -1001, -1002, -1003, -1003, -1004, -1005, -1006, -1007,
            -1008, -1007, -1008, -1003, -1003, 1, -2006, -2010,
            -1003, -1002, -1002, -1005, -1006, -1004, -1004, -1008, -1007,
            -1007, -1007, -1007, -1005, -1005, -1004, -1002, -1001, -1000,
            -1002, -1004, -1006, -1002, -1005, -1005, -1006, -1007, -1005};
        for (int i = 0; i < texts.length; i++) {
            Due.is("6: " + texts[i], Due.law(h, texts[i]), dues[i]);
            Due.is("6: empty then", h.count(5), 0);
            if (dues[i] > 0) {
                Due.law(h, "c7(1=1);x(1=2)");
            }
            Due.is("6: the one before stays, " + texts[i], h.count(4), 2);
        }
        h.guest(0, 100);
        Due.is("6: and is kept to", h.tried(1, 2), 7);
        Due.is("6: a byte above 127", Due.law(h, Due.bytes('c', 200)), -1001);
        Due.is("6: a byte 0", Due.law(h, Due.bytes(0)), -1000);
    }

    private static void tooMany() {
        GrilleHotel h = new GrilleHotel();
        String sixteen = "x(1=1);".repeat(15) + "x(1=1)";
        Due.is("6: sixteen", Due.law(h, sixteen), 16);
        Due.is("6: count(4)", h.count(4), 16);
        for (char kind : "ckdx".toCharArray()) {
            Due.is("6: a 17th " + kind, Due.law(h, sixteen + ";" + kind), -4112);
        }
        Due.is("6: a 17th a", Due.law(h, sixteen + ";a"), -1112);
        Due.is("6: a 17th without", Due.law(h, sixteen + ";"), -1112);
        Due.is("6: no ;", Due.law(h, sixteen + "c"), -1111);
    }

    private static void tooDeep() {
        GrilleHotel h = new GrilleHotel();
        String[] texts = {
            "x((((((1=1))))))", "x(((((((1=1)))))))", "x(!!!!!1=1)", "x(!!!!!!1=1)", "x(!!!!![1]=1)", "x(!!!!!(1=1))",
            "c[[[[[[1]]]]]](1=1)", "c[[[[[[[1]]]]]]](1=1)", "x([[[[[1]]]]]=1)", "x([[[[[[1]]]]]]=1)", "x(1=[[[[[[1]]]]]])",
            "x(!(!([1]=1)))", "x(!(!(![1]=1)))", "x(!(!(!1=[1])))", "x(!!!!!1=1&!!!!!1=1)", "x(!!!!!1=1|!!!!!!1=1)",
            "x((((((1=1)))))&[1]=1)", "x(!!!1=1&((((((", "x(!!!!!))", "x(!!!!!(("};
        int[] dues = {1, -5007, 1, -5007, -5007, -5007, 1, -5007, 1, -5007, -5009,
            1, -5007, -5009, 1, -5016, 1, -5014, -1007, -5007};
        for (int i = 0; i < texts.length; i++) {
            Due.is("6: " + texts[i], Due.law(h, texts[i]), dues[i]);
        }
    }

    private static void refused() {
        GrilleHotel h = new GrilleHotel();
        Due.is("6: has none", h.law(1), -1);
        Due.feed(h, "c5(1=1)" + " ".repeat(250));
        Due.is("6: count(5)", h.count(5), 260);
        Due.is("6: n 0", h.law(0), -1);
        Due.is("6: n -1", h.law(-1), -1);
        Due.is("6: n 241", h.law(241), -1);
        Due.is("6: the tape stays", h.count(5), 260);
        Due.is("6: n 7", h.law(7), 1);
        Due.is("6: empty then", h.count(5), 0);
        String long240 = "x(1=1" + "&1=1".repeat(58) + "&1)";
        Due.is("6: 240 bytes", Due.law(h, long240), -1239);
        String fine240 = "x(11=11" + "&1=1".repeat(58) + ")";
        Due.is("6: 240 bytes", Due.law(h, fine240), 1);
    }

    /** What a rule of c says is told by how much goes out at the top, as nothing settles or comes out. */
    private static int sent(String rules) {
        GrilleHotel h = new GrilleHotel();
        h.guest(6, 80);
        if (Due.law(h, rules) < 0) {
            return -1;
        }
        return h.tried(1, 2);
    }

    private static void meaning() {
        String[] texts = {"c5(1=1)", "c5(1=2)", "c5(1<2)", "c5(2<1)", "c5(1<1)", "c5(2>1)", "c5(1>1)", "c100(1=1)",
            "c0-5(1=1)", "c2+3*4(1=1)", "c[2+3]*4(1=1)", "c20-5-3(1=1)", "c40/4/2(1=1)", "c47%10*2(1=1)", "c7/0(1=1)",
            "c7%0(1=1)", "c5(1/0=1)", "c5(!1/0=1)", "c5(1/0=1|1=1)", "c5(1=1|1/0=1)", "c5(1=2&1/0=1)", "c5(!(1=2&1/0=1))",
            "c5(1/0=1);c6(1=1)", "c7/0(1=1);c6(1=1)", "c5(1=2);c6(1=1)", "c5(1=1);c6(1=1)", "c5(1=2|1=1&2=2)",
            "c5(1=1|1=2&2=3)", "c5((1=1|1=2)&2=3)", "c5(!1=2&!1=3)", "c5(!(1=1))", "c5(!!1=1)",
            "c5(!1=1&1=2|3=3)", "c5(99999*99999=1409865409)", "c5([0-7]/2=0-3)", "c5([0-7]%2=0-1)",
            "c5(99999*99999<0)", "c5(65536*32768<0)", "c5(65536*32768/[0-1]<0)", "c5(65536*32768%[0-1]=0)",
            "k5(1=1);c5(1=1)", "x(1=1);c5(1=1)", "x(1=2);c5(1=1)", "x(1=2);x(1=1);c5(1=1)", "x(1/0=1);c5(1=1)", "x(1=1)",
            "c00005(1=1)", "c10-2*3+4(1=1)", "c99999(1=1)", "c5(1=1&2=3|4=4&5=5)"};
        int[] dues = {5, 0, 5, 0, 0, 5, 0, 80,
            0, 14, 20, 12, 5, 14, 0,
            0, 0, 0, 0, 5, 0, 5,
            6, 0, 6, 5, 5,
            5, 0, 5, 0, 5,
            5, -1, 5, 5,
            0, 5, 5, 5,
            0, 0, 5, 0, 5, 0,
            5, 8, 80, 5};
        for (int i = 0; i < texts.length; i++) {
            Due.is("6: " + texts[i], sent(texts[i]), dues[i]);
        }
        Due.is("6: bits", sent("c5(99999*99999=14098*10000*10+65409)"), 5);
    }

    /** Letters in c and x are those of the room itself; in k and d those of the room passed. */
    private static void letters() {
        GrilleHotel h = new GrilleHotel();
        h.guest(6, 80);
        Due.is("6: law", Due.law(h, "k3(1=1);c9(1=1)"), 2);
        h.hours(2);
        String[] own = {"r=6", "s=62", "p=6", "f=1", "w=0", "g=0", "a=0", "h=2"};
        for (String test : own) {
            Due.law(h, "c5(" + test + ")");
            Due.is("6: in c " + test, h.tried(1, 2), 5);
            Due.law(h, "c5(1=1);x(" + test + ")");
            Due.is("6: in x " + test, h.tried(1, 2), 0);
        }
        String[] passed = {"r=6", "s=53", "p=10", "f=2", "w=0", "g=6", "a=9", "h=2"};
        for (String test : passed) {
            Due.law(h, "c9(1=1);k4(" + test + "&p=10)");
            Due.is("6: in k " + test, h.tried(1, 1), 4);
        }
        h.guest(10, 0);
        h.guest(14, 0);
        Due.law(h, "c1(r=6);d10(p=10)");
        h.hours(3);
        String[] out = {"r=6", "s=50", "p=10", "f=2", "w=3", "g=10", "a=5", "h=5"};
        for (String test : out) {
            Due.law(h, "c9(1=1);k4(p=10);d10(" + test + "&p=10)");
            Due.is("6: in d " + test, h.tried(1, 0), 5);
            Due.is("6: in d " + test, h.tried(1, 110), 8);
        }
        // w, g in c and x: of the room itself.
        Due.law(h, "c1(1=1)");
        h.guest(10, 5);
        h.grille(6, false);
        Due.law(h, "c5(r=10&g=6&w=0)");
        Due.is("6: g in c", h.tried(1, 2), 5);
        Due.law(h, "c0+w(r=10)");
        Due.is("6: w in c", h.tried(1, 2), 0);
    }

    private static void asMuchAsMatters() {
        String[] texts = {"c5(1=1|1/0=1&1/0=1)", "c5(1=2&1/0=1|1=1)", "c5(1=1&1=2&1/0=1|2=2)", "c5((1=1|1/0=1)&2=2)",
            "c5(!(1=1|1/0=1)|2=2)", "c5(1=1&1/0=1|1=1)", "c5((1=2|1=1|1/0=1)&(1=1|1/0=1))", "c5(1=2&(1/0=1|1=1)|3=3)",
            "c5(1=2&1=1|1=2&1/0=1|5=5)", "c5(1=2|1=2|1/0=1|1=1)"};
        int[] dues = {5, 5, 5, 5, 5, 0, 5, 5, 5, 0};
        for (int i = 0; i < texts.length; i++) {
            Due.is("6: " + texts[i], sent(texts[i]), dues[i]);
        }
    }

    /** As much as can wait for a bracket does so here: a sum and a product at each one. */
    private static void deepSums() {
        String deep = "1+2*[1+2*[1+2*[1+2*[1+2*[1+2*[1+1*2]]]]]]";
        Due.is("6: " + deep, sent("c" + deep + "-200(1=1)"), 55);
        int value = 3;
        for (int i = 0; i < 6; i++) {
            value = 1 + 2 * value;
        }
        Due.is("6: " + deep, sent("c" + deep + "-" + (value - 11) + "(1=1)"), 11);
        String five = "1+2*[1+2*[1+2*[1+2*[1+2*[1+1*2]]]]]";
        Due.is("6: compared", sent("c7(" + five + "=" + five + ")"), 7);
        Due.is("6: compared", sent("c7(" + five + "+1=" + five + ")"), 0);
        Due.is("6: compared", sent("c7(" + five + "=127)"), 7);
    }
}
