/** Promise 8, and what THE LAW says by promise 14: its texts, faults and how it is reckoned. */
final class LawTest {
    private LawTest() {
    }

    private static String repeated(String text, int times) {
        StringBuilder s = new StringBuilder();
        for (int i = 0; i < times; i++) {
            s.append(text);
        }
        return s.toString();
    }

    private static void refusals() {
        GiantHeart x = new GiantHeart();
        for (int i = 0; i < 13; i++) {
            x.feed(0x6D312831, 0x3D31293B, 0x6D312831, 0x3D31293B, 0x6C6C6C6C);
        }
        Check.due("law(0)", x.law(0), -1);
        Check.due("law(-1)", x.law(-1), -1);
        Check.due("law(241)", x.law(241), -1);
        Check.due("the tape stays", x.count(3), 260);
        Check.due("law(15)", x.law(15), 2);
        Check.due("empty then", x.count(3), 0);
        Check.due("law(1) of nothing", x.law(1), -1);
        Check.due("clauses stay", x.count(2), 2);
        Check.due("a fault", Check.law(x, "m1(1=1);x"), -1008);
        Check.due("empty behind a fault", x.count(3), 0);
        Check.due("the one before stays", x.count(2), 2);
        Check.due("in place of the one before", Check.law(x, "l1(1=1)"), 1);
        Check.due("clauses", x.count(2), 1);
        x.feed(0x6D312831, 0x3D310000, 0, 0, 0);
        Check.due("not so many", x.law(21), -1);
        Check.due("stays", x.count(3), 20);
        Check.due("its end", x.law(6), -1006);
    }

    private static void faults() {
        String sixteen = repeated("m1(1=1);", 15) + "m1(1=1)";
        Object[][] all = {
            {"m", -1001}, {"m1", -1002}, {"m1(", -1003}, {"m1(1", -1004}, {"m1(1=", -1005}, {"m1(1=1", -1006},
            {"m1(1=1)", 1}, {"m1(1=1);", -1008}, {"m1(1=1)m", -1007}, {"m1(1=1),", -1007}, {"M1(1=1)", -1000},
            {"m (1=1)", -1001}, {"m1 (1=1)", -1002}, {"m-1(1=1)", -1001}, {"m1+(1=1)", -1003}, {"m(1)(1=1)", -1001},
            {"m1(1)", -1004}, {"m1(1=1=1)", -1006}, {"m1(1<=1)", -1005}, {"m1(1=1&)", -1007}, {"m1(1=1||1=1)", -1007},
            {"m1([1=1])", -1005}, {"m1((1)=1)", -1005}, {"m1([1)=1)", -1005}, {"m1((1=1]", -1007}, {"m1()", -1003},
            {"m1(!)", -1004}, {"m1(!1)", -1005}, {"m1(1!=1)", -1004}, {"m[](1=1)", -1002}, {"m1](1=1)", -1002},
            {"mnh(1=1)", -1002}, {"m1n(1=1)", -1002}, {"mn1(1=1)", -1002}, {"ma(1=1)", -1001}, {"mm(1=1)", -1001},
            {"m12345(1=1)", 1}, {"m00000(1=1)", 1}, {"m123456(1=1)", -2006}, {"m1(1=000000)", -2010},
            {"m1+123456", -2008},
            {sixteen, 16}, {sixteen + ";m", -4128}, {sixteen + ";l1(1=1)", -4128}, {sixteen + ";x", -1128},
            {sixteen + ";", -1128},
            {"m[[[[[[1]]]]]](1=1)", 1}, {"m[[[[[[[1]]]]]]](1=1)", -5007},
            {"m1((((((1=1))))))", 1}, {"m1(((((((1=1)))))))", -5008},
            {"m1(!!!!!1=1)", 1}, {"m1(!!!!!!1=1)", -5008}, {"m1(!!!!!(1=1))", -5008}, {"m1(!!!!![1]=1)", -5008},
            {"m1(!!!!!1=[1])", -5010}, {"m1(!!!!1=[1]+[1])", 1}, {"m1(!!!!1=1&!!!!1=1)", 1},
            {"m1((!(!(1=1))))", 1}, {"m1((!(!([1]=1))))", -5008}, {"m1((!(!(1=1&!1=1))))", -5012},
            {"m1([[[[[1]]]]]=[[[[[1]]]]])", 1}, {"m1([[[[[[1", -5008},
            {"m1((1=1)&(1=1)|!(1=1))", 1}, {"m1((1=1)(1=1))", -1008}, {"m1((1=1)=1)", -1008},
            {"m1(1=1);l[h+1]%3(r>4)", 2},
        };
        for (Object[] one : all) {
            GiantHeart x = new GiantHeart();
            int due = (Integer) one[1];
            Check.due("law " + one[0], Check.law(x, (String) one[0]), due);
            Check.due("clauses of " + one[0], x.count(2), Math.max(due, 0));
        }
        GiantHeart x = new GiantHeart();
        Check.due("240 bytes", Check.law(x, "m1" + repeated("+1", 115) + "(1=1)" + ";l2"), -1240);
        Check.due("240 bytes that are a law", Check.law(x, "m1" + repeated("+1", 116) + "0(1=1)"), 1);
        x.feed(0x6DE92831, 0x3D310000, 0, 0, 0);
        Check.due("a byte above 127", x.law(7), -1001);
    }

    /** Eight PLACES: 0, 1 on island 2; 2, 3 within 0; 4 within 2, wet; 5 locked; 6; 7; the heart in 2. */
    private static GiantHeart scene() {
        GiantHeart x = new GiantHeart();
        x.place(0, 2, -1, -1);
        x.place(1, 2, -1, -1);
        x.place(2, 0, 0, -1);
        x.place(3, 0, 0, -1);
        x.place(4, 0, 2, -1);
        x.place(5, 3, -1, 0);
        x.place(6, 0, -1, -1);
        x.place(7, 0, -1, -1);
        x.more(4, true, -1);
        x.heart(2);
        return x;
    }

    private static void says(String law, int due) {
        GiantHeart x = scene();
        Check.due("law " + law, Check.law(x, law), law.split(";").length);
        Check.due("he says by " + law, x.night(7), due);
    }

    private static void holds(String condition, boolean due) {
        says("l5(" + condition + ");l6(1=1)", due ? 5 : 6);
    }

    private static void worths() {
        says("l7(1=1)", 7);
        says("l1+2*3(1=1)", 7);
        says("l[1+2]*2(1=1)", 6);
        says("l9-2-1(1=1)", 6);
        says("l9-[2-1]*2(1=1)", 7);
        says("l8/4*2(1=1)", 4);
        says("l11%7*2-1(1=1)", 7);
        says("l2*3%4(1=1)", 2);
        says("l7/2(1=1)", 3);
        says("l[0-7]/2+7(1=1)", 4);
        says("l[0-7]%4+7(1=1)", 4);
        says("l00005(1=1)", 5);
        says("l8(1=1)", 2);
        says("l0-1(1=1)", 2);
        says("l65536*65536(1=1)", 0);
        says("l[[32768*65536]/[0-1]]/[32768*65536](1=1)", 1);
        says("l1/0(1=1)", 0);
        says("l1%0(1=1)", 0);
        says("l3+[1/0](1=1)", 0);
        says("l3+0*[1%[2-2]](1=1)", 0);
        says("l5" + repeated("*1", 55) + repeated("+0", 60) + "+2(1=1)", 7);
        holds("32768*65536<0", true);
        holds("99999*99999>0", true);
        holds("99999*99999*2<0", true);
        holds("[32768*65536]/[0-1]<0", true);
        holds("[32768*65536]%[0-1]=0", true);
    }

    private static void letters() {
        says("ln+1(1=1)", 1);
        says("lh(1=1)", 2);
        says("li+1(1=1)", 3);
        says("ld(1=1)", 7);
        says("ls-3(1=1)", 5);
        says("lw+4(1=1)", 4);
        says("lk+4(1=1)", 4);
        says("lo+4(1=1)", 5);
        // X is 39022 behind the first draw
        says("lr+1(1=1)", 3);
        // behind the move h is where it is now, and so are i, w, k and o
        says("m5(1=1);lh(1=1)", 5);
        says("m5(1=1);li(1=1)", 3);
        says("m5(1=1);lk(1=1)", 1);
        says("m4(1=1);lw(1=1)", 1);
        says("m0(1=1);lo(1=1)", 2);
        says("m0(1=1);li(1=1)", 2);
        // d is what she dusted now, for the move too
        says("m0(d=7);lh(1=1)", 0);
        // the DRAW is one for both
        says("mr+3(1=1);lh-r(1=1)", 3);
    }

    private static void conditions() {
        holds("1<2", true);
        holds("2<2", false);
        holds("2>1", true);
        holds("2>2", false);
        holds("2=2", true);
        holds("2=3", false);
        holds("!1=2", true);
        holds("!!1=2", false);
        holds("1=2&1=1|1=1", true);
        holds("1=1|1=1&1=2", true);
        holds("(1=1|1=1)&1=2", false);
        holds("!(1=1&1=2)", true);
        holds("!1=1|1=1", true);
        // as much is asked as matters
        holds("1=1|1/0=0", true);
        holds("1/0=0|1=1", false);
        holds("1=2&1/0=0|1=1", true);
        holds("1=1&1/0=0|1=1", false);
        holds("!(1/0=1)", false);
        holds("!(1=1|1/0=1)|1=1", true);
        holds("(1=2&1%0=0)|(1=1|1%0=0)", true);
        holds("(1=1|1/0=0)&(1=2|(1=1|1/0=0))", true);
        holds("0*[1/0]=0", false);
        holds("1=1/0|1=1", false);
        holds("1=2" + repeated("|1=2", 50) + "|1=1", true);
        holds("1=1" + repeated("&1=1", 50) + "&1=2", false);
        holds("0<1&!(!(1<0|2>1)|n=1)", true);
    }

    private static void clauses() {
        says("l3(1=1);l4(1=1)", 3);
        says("l3(1=2);l4(1=1)", 4);
        says("l3(1=2);l4(1=2)", 2);
        says("m3(1=1)", 3);
        says("m3(1=1);l4(1=1);m5(1=1);l6(1=1)", 4);
        // the first whose C holds counts, also when its PLACE is none
        says("l9(1=1);l4(1=1)", 2);
        says("m9(1=1);m4(1=1)", 2);
        GiantHeart x = new GiantHeart();
        x.place(1, 0, -1, -1);
        x.heart(1);
        Check.law(x, "m2(1=1);l3(1=1)");
        Check.due("to a place that is not told", x.night(8), 1);
        Check.due("he doesn't move it", x.count(1), 1);
    }

    public static void main(String[] args) {
        refusals();
        faults();
        worths();
        letters();
        conditions();
        clauses();
        Check.end("LawTest");
    }
}
