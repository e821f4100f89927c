/**
 * The edges that the document's sentences name of the giant, promises 14 to 17 and what THE LAW comes to: 32 bits, what
 * is divided by 0, each letter's least and greatest, the first and the last NIGHT. A sentence stands above its test.
 */
final class EdgesOfGiantTest {
    private static final String GREATEST = "[32768*65536-1]";
    private static final String LEAST = "[32768*65536]";

    private EdgesOfGiantTest() {
    }

    private static GiantHeart told(int places, String law) {
        GiantHeart x = new GiantHeart();
        for (int p = 0; p < 8; p++) {
            if ((places >> p & 1) == 1) {
                x.place(p, 0, -1, -1);
            }
        }
        Check.due("law " + law, Check.law(x, law), law.split(";").length);
        return x;
    }

    /** Whether the C holds on the first night, the heart being in 5, nothing DUSTED or SAID. */
    private static void holds(String condition, boolean due) {
        GiantHeart x = told(255, "l1(" + condition + ");l0(1=1)");
        x.heart(5);
        Check.due("holds: " + condition, x.night(8), due ? 1 : 0);
    }

    /** All is reckoned with 32 bits, as the machine does. */
    private static void thirtyTwoBits() {
        holds(GREATEST + ">0", true);
        holds(LEAST + "<0", true);
        holds(GREATEST + "+1=" + LEAST, true);
        holds(LEAST + "-1=" + GREATEST, true);
        holds("0-" + LEAST + "=" + LEAST, true);
        holds("0-" + GREATEST + "-1=" + LEAST, true);
        holds(GREATEST + "*2=0-2", true);
        holds(LEAST + "*2=0", true);
        holds(LEAST + "*[0-1]=" + LEAST, true);
        holds(LEAST + "/[0-1]=" + LEAST, true);
        holds(LEAST + "%[0-1]=0", true);
        holds("65536*65536=0", true);
        holds("65536*65535=0-65536", true);
        holds("99999*99999=14098*[10*10000]+65409", true);
        // the greater one is greater, though the difference of the two wraps round
        holds(LEAST + "<" + GREATEST, true);
        holds(GREATEST + "<" + LEAST, false);
        holds(LEAST + "<1", true);
        holds("1>" + LEAST, true);
        holds("0-2>" + GREATEST, false);
        holds(GREATEST + ">0-2", true);
        holds(GREATEST + "=" + GREATEST, true);
        holds(LEAST + "=" + GREATEST, false);
        // towards 0, the rest with the sign of what is divided
        holds("[0-7]/2=0-3", true);
        holds("[0-7]%4=0-3", true);
        holds("7%[0-4]=3", true);
        holds("7/[0-4]=0-1", true);
        holds("[0-7]/[0-2]=3", true);
        holds("99999=10*10000-1", true);
        holds("00000=0", true);
        holds("09999+1=10000", true);
    }

    /** TERMS with + or - between two; FACTORS with one of * / %; from the left on. */
    private static void fromTheLeft() {
        holds("8-4-2=2", true);
        holds("9-4+2=7", true);
        holds("8/4/2=1", true);
        holds("8/4*2=4", true);
        holds("2*3%4=2", true);
        holds("7%4*2=6", true);
        holds("2+3*4=14", true);
        holds("2*3+4=10", true);
        holds("10-2*3=4", true);
        holds("[2+3]*4=20", true);
        holds("20-[10-[5-2]]=13", true);
        holds("1=2", false);
        holds("2<2", false);
        holds("2>2", false);
        holds("2<3", true);
        holds("3>2", true);
        holds("3<2", false);
        holds("2>3", false);
    }

    /** PARTS with a | between two, one of which must hold; PIECES with an & between two, all of which must; !PIECE. */
    private static void conditions() {
        holds("!1=1", false);
        holds("!1=2", true);
        holds("!!1=1", true);
        holds("!!1=2", false);
        holds("!(1=1)", false);
        holds("!(1=2)", true);
        holds("1=1&!1=1", false);
        holds("!1=1|1=1", true);
        holds("!1=2&1=2", false);
        holds("!1<2", false);
        holds("!2>1", false);
        holds("!!2>1", true);
        // one to four of each, each holding or not
        for (int deep = 1; deep <= 4; deep++) {
            for (int bits = 0; bits < 1 << deep; bits++) {
                StringBuilder all = new StringBuilder();
                for (int i = 0; i < deep; i++) {
                    all.append(i == 0 ? "" : "&").append((bits >> i & 1) == 1 ? i % 2 == 0 ? "1<2" : "2>1" : "1>2");
                }
                String any = all.toString().replace('&', '|');
                boolean areAll = bits == (1 << deep) - 1;
                boolean isAny = bits != 0;
                holds(all.toString(), areAll);
                holds(any, isAny);
                holds("!(" + all + ")", !areAll);
                holds("!(" + any + ")", !isAny);
                holds("(" + any + ")&1=2", false);
                holds("(" + any + ")&1=1", isAny);
                holds("1=1&(" + any + ")", isAny);
                holds(all + "|1=1", true);
                holds(all + "|1=2", areAll);
                holds("1=2|" + all, areAll);
                holds(all + "|" + all, areAll);
                // & binds before |
                holds(any + "&1=2", (bits & (1 << deep - 1) - 1) != 0);
                holds("1=2&" + any, (bits & ~1) != 0);
            }
        }
        holds("(((((1=1)))))", true);
        holds("!!(!(1=1))", false);
    }

    /** What is divided by 0 is REFUSED: then the C as a whole does not hold (through any !, ( ) and |), an E is 0. */
    private static void dividedByNothing() {
        for (String refused : new String[] {"1/0=0", "1%0=0", "0/0=0", "0%0=0", "0=1/0", "1/[h-5]=0", "1%[s-8]<9", "[1/0]*0=0",
            "0<1+[0%0]", LEAST + "/0<0"}) {
            holds(refused, false);
            holds("!" + refused, false);
            holds("!!" + refused, false);
            holds("(" + refused + ")", false);
            holds("!(" + refused + ")", false);
            holds("!(!(" + refused + "))", false);
            holds(refused + "|1=1", false);
            holds("(" + refused + ")|1=1", false);
            holds("!(" + refused + ")|1=1", false);
            holds("(" + refused + "|1=1)|1=1", false);
            holds("1=2|" + refused + "|1=1", false);
            holds("1=1&" + refused + "|1=1", false);
            holds(refused + "&1=2", false);
            // as much is asked, from the left, as matters
            holds("1=1|" + refused, true);
            holds("1=2&" + refused + "|1=1", true);
            holds("1=2&" + refused, false);
            holds("!(1=2&" + refused + ")", true);
            holds("(1=1|" + refused + ")&1=1", true);
            holds("!(1=1|" + refused + ")|1=1", true);
            holds("(1=2&" + refused + "|1=1)&(1=1|" + refused + ")", true);
            holds("1=1&1=2&" + refused + "|1=1", true);
            holds("1=2|1=1|" + refused, true);
        }
        holds("0/5=0", true);
        holds("0%5=0", true);
        // behind a CLAUSE whose C is REFUSED the next one is asked
        says("l3(1/0=0);l4(1=1)", 4);
        says("m3(1/0=0);m4(1=1)", 4);
        // an E is 0: PLACE 0, not the one where the heart is
        says("l1/0(1=1)", 0);
        says("l3+1%0(1=1)", 0);
        says("l1/0+3(1=1)", 0);
        says("l3+[4/0](1=1)", 0);
        says("m7%0(1=1)", 0);
        says("m3-1/0(1=1)", 0);
        says("l" + LEAST + "/[0-1]+" + LEAST + "(1=1)", 0);
        GiantHeart x = told(32, "m1/0(1=1)");
        x.heart(5);
        Check.due("PLACE 0 is not told: it stays", x.night(8), 5);
        Check.due("in 5", x.count(1), 5);
    }

    /** The heart in 5 of eight, nothing DUSTED. */
    private static void says(String law, int due) {
        GiantHeart x = told(255, law);
        x.heart(5);
        Check.due("says by " + law, x.night(8), due);
    }

    /** m the PLACE into which he moves it, l the PLACE that he says (both 0 to 7; beyond these, not told, or none). */
    private static void placesOfTheLaw() {
        for (int p = 0; p < 8; p++) {
            GiantHeart x = told(255, "m" + p + "(1=1);l" + (7 - p) + "(1=1)");
            x.heart(5);
            Check.due("he says", x.night(8), 7 - p);
            Check.due("he moves it", x.count(1), p);
            x = told(255 - (1 << p) | 32, "m" + p + "(1=1);l" + p + "(1=1)");
            x.heart(5);
            Check.due("not told: he says where it is", x.night(8), 5);
            Check.due("not told: he does not move it", x.count(1), 5);
        }
        for (String beyond : new String[] {"8", "9", "0-1", "0-8", "99999", LEAST, GREATEST, "65536*65536+8", "256", "32"}) {
            GiantHeart x = told(255, "m" + beyond + "(1=1);l" + beyond + "(1=1)");
            x.heart(5);
            Check.due("beyond: he says where it is", x.night(8), 5);
            Check.due("beyond: he does not move it", x.count(1), 5);
            x = told(255, "m3(1=1);l" + beyond + "(1=1)");
            x.heart(5);
            Check.due("beyond: he says where it is now", x.night(8), 3);
        }
        says("m3(1=2);l3(1=2)", 5);
        // of the first one of a letter whose C holds, also if its PLACE is none
        says("l8(1=1);l3(1=1)", 5);
        says("m8(1=1);m3(1=1)", 5);
        says("l3(1=2);l2(1=1);l1(1=1)", 2);
        says("m3(1=1);m2(1=1);l1(1=2);lh(1=1)", 3);
        // the letters apart, whatever their order: m is asked ahead of l
        says("lh(1=1);m3(1=1)", 3);
    }

    private static void saysIn(GiantHeart x, String law, int dusted, int due) {
        Check.law(x, law);
        Check.due("by " + law, x.night(dusted), due);
    }

    /** n h i d s w k o r: each one's least and greatest. */
    private static void letters() {
        for (int p = 0; p < 8; p++) {
            GiantHeart x = told(255, "lh(h=" + p + ");l[" + p + "+1]%8(1=1)");
            x.heart(p);
            Check.due("h is " + p, x.night(8), p);
            GiantHeart d = told(255, "ld(d<8)");
            Check.due("d is " + p, d.night(p), p);
            GiantHeart s = told(255, "l" + p + "(n=0);l[s+1]%8(1=1)");
            s.night(8);
            Check.due("s is " + p, s.night(8), (p + 1) % 8);
        }
        for (int island = 0; island < 4; island++) {
            GiantHeart x = new GiantHeart();
            for (int p = 0; p < 8; p++) {
                x.place(p, island, p > 0 ? p - 1 : -1, -1);
            }
            x.heart(7);
            saysIn(x, "li(i<4)", 8, island);
        }
        holds("d=8", true);
        holds("s=8", true);
        holds("n=0", true);
        holds("w=0&k=0&o=0", true);
        GiantHeart x = told(255, "l3(1=1)");
        x.place(2, 0, -1, 0);
        x.place(3, 0, -1, 7);
        x.place(4, 0, -1, 3);
        x.more(4, true, -1);
        x.heart(2);
        saysIn(x, "lk(1=1)", 8, 1);
        x.heart(3);
        saysIn(x, "lk+w(1=1)", 8, 1);
        x.heart(4);
        saysIn(x, "lk+w(1=1)", 8, 2);
        x.place(4, 0, -1, -1);
        saysIn(x, "lk+w(1=1)", 8, 0);
        x.more(4, true, -1);
        saysIn(x, "lw+k(1=1)", 8, 1);
        // o: on the next level
        GiantHeart y = new GiantHeart();
        y.place(0, 0, -1, -1);
        for (int p = 1; p < 8; p++) {
            y.place(p, 0, 0, -1);
            y.heart(0);
            saysIn(y, "l0(o=" + p + ");l1(1=1)", 8, 0);
        }
        y.place(7, 0, 6, -1);
        saysIn(y, "l0(o=6);l1(1=1)", 8, 0);
        y.heart(6);
        saysIn(y, "l0(o=1);l1(1=1)", 8, 0);
        y.heart(7);
        saysIn(y, "l0(o=0);l1(1=1)", 8, 0);
        // r: each of the ten, one for both m and l
        for (int seed = 0; seed < 40; seed++) {
            int draw = (25173 * seed + 13849) % 65536 % 10;
            GiantHeart z = told(255, "m2(r=" + draw + ");l3(r=" + draw + ");l1(1=1)");
            z.seed(seed);
            Check.due("r is " + draw, z.night(8), 3);
            Check.due("for both", z.count(1), 2);
        }
    }

    /** A NIGHT: l: h is where it is now; d what she DUSTED now, in both; then s and n are the next night's. */
    private static void order() {
        GiantHeart x = told(255, "m[h+1]%8(d=4&s=8&n=0);lh(d=4&s=8&n=0);m[h+2]%8(d=6&s=1&n=1);l[h+s]%8(d=6&s=1&n=1)");
        Check.due("the first", x.night(4), 1);
        Check.due("it is moved", x.count(1), 1);
        Check.due("THE NIGHT is one more", x.count(5), 1);
        Check.due("DUSTED", x.count(6), 4);
        Check.due("SAID", x.count(7), 1);
        Check.due("the second", x.night(6), 4);
        Check.due("it is moved", x.count(1), 3);
        Check.due("THE NIGHT is one more", x.count(5), 2);
        Check.due("DUSTED", x.count(6), 6);
        Check.due("SAID", x.count(7), 4);
        Check.due("a third, by no clause", x.night(0), 3);
        Check.due("DUSTED 0", x.count(6), 0);
        Check.due("SAID", x.count(7), 3);
        Check.due("8: nothing", x.night(8), 3);
        Check.due("DUSTED nothing", x.count(6), 8);
        Check.due("7", x.night(7), 3);
        Check.due("DUSTED 7", x.count(6), 7);
        // told or not
        GiantHeart y = told(1, "l0(d=7)");
        Check.due("a PLACE that is not told", y.night(7), 0);
        Check.due("is DUSTED", y.count(6), 7);
    }

    /** 15: NIGHTS (1 to 20) that are tried; 8 at first, if he SAID nothing yet. */
    private static void trials() {
        // he moves it on each night, and says where it was, but the truth on every fifth
        GiantHeart x = told(255, "m[h+1]%8(1=1);lh(n%5=4);l[h+7]%8(1=1)");
        for (int n = 1; n <= 20; n++) {
            Check.due("where it is then", x.tried(n, 0), n % 8);
            Check.due("what he SAID last", x.tried(n, 1), n % 5 == 0 ? n % 8 : (n + 7) % 8);
            Check.due("how often the truth", x.tried(n, 2), n / 5);
            Check.due("how often he moved it", x.tried(n, 3), n);
        }
        Check.due("0", x.tried(0, 0), -1);
        Check.due("21", x.tried(21, 0), -1);
        Check.due("nothing is changed", x.count(1) + x.count(5), 0);
        x.night(8);
        Check.due("from the night on", x.tried(4, 2), 1);
        // DUSTED is what he SAID the night ahead; nothing at first, whatever was DUSTED
        GiantHeart y = told(255, "l7(d=8);l6(d=7&s=7);l5(d=6);l4(1=1)");
        Check.due("nothing is DUSTED at first", y.tried(1, 1), 7);
        Check.due("what he SAID the night ahead", y.tried(2, 1), 6);
        Check.due("what he SAID the night ahead", y.tried(3, 1), 5);
        Check.due("what he SAID the night ahead", y.tried(4, 1), 4);
        y.night(7);
        Check.due("he SAID 6 now", y.count(7), 4);
        Check.law(y, "l3(d=4);l2(1=1)");
        Check.due("the one he SAID is DUSTED, not the one that was", y.tried(1, 1), 3);
        // nothing moves, all is true; nothing is true
        GiantHeart z = told(255, "m8(1=1)");
        Check.due("never moved", z.tried(20, 3), 0);
        Check.due("always true", z.tried(20, 2), 20);
        Check.law(z, "l1(1=1)");
        Check.due("never true", z.tried(20, 2), 0);
        // the draws are the coming ones
        Check.law(z, "mr%8(1=1)");
        int last = z.tried(3, 0);
        Check.due("X stays", z.count(4), 1);
        z.night(8);
        z.night(8);
        z.night(8);
        Check.due("as it comes", z.count(1), last);
    }

    private static void odds(GiantHeart x, String story, int places, int what, long due) {
        Check.due("story " + story + " from " + places + ", " + what, Check.story(x, story, places, what), due);
    }

    private static String nights(String night, int many) {
        return (night + ",").repeat(many - 1) + night;
    }

    /** 16: PLACES (bits, not empty, told ones), what p and 8 times w; 16 in how many it can be; -2. */
    private static void stories() {
        GiantHeart x = told(255, "l0(h<7)");
        odds(x, ".7", 128, 7, 1);
        odds(x, ".7", 128, 15, 1);
        odds(x, ".7", 128, 0, 0);
        odds(x, ".7", 128, 8, 1);
        odds(x, ".7", 128, 16, 1);
        odds(x, ".7", 127, 16, -2);
        odds(x, ".0", 1, 0, 1);
        odds(x, ".0", 1, 15, 1);
        odds(x, ".0", 1, 16, 1);
        odds(x, ".0", 255, 16, 7);
        odds(x, ".0", 255, 6, 1);
        odds(x, ".0", 255, 14, 7);
        odds(x, ".0", 255, 15, 1);
        odds(x, ".1", 255, 0, -2);
        odds(x, ".0,.7", 255, 0, -2);
        odds(x, nights(".0", 12), 255, 16, 7);
        odds(x, nights(".0", 11) + ",.7", 255, 16, -2);
        x = told(255, "lh(1=1)");
        for (int p = 0; p < 8; p++) {
            odds(x, "." + p, 255, p, 1);
            odds(x, "." + p, 255, 8 + p, 1);
            odds(x, "." + p, 255, 16, 1);
            odds(x, "." + p, 255 - (1 << p), 16, -2);
        }
        // what is not told he can't say
        x = told(127, "l7(1=1)");
        odds(x, ".7", 127, 16, -2);
        odds(x, ".7", 255, 16, -3);
        odds(x, "76", 127, 6, 1);
        // without a common divisor: of eight draws in ten, and of the rest
        x = told(15, "m1(r<8);l0(1=1)");
        odds(x, ".0", 1, 0, 1);
        odds(x, ".0", 1, 8, 5);
        odds(x, ".0", 1, 1, 4);
        odds(x, ".0", 1, 9, 5);
        odds(x, nights(".0", 12), 1, 0, 1);
        odds(x, nights(".0", 12), 1, 8, 244140625);
        odds(x, nights(".0", 12), 1, 1, 244140624);
        odds(x, nights(".0", 12), 15, 0, 1);
        odds(x, nights(".0", 12), 15, 8, 976562500);
        // only the draws that go with what he SAID: nine of ten are not, twelve times
        x = told(3, "l1(r=9)");
        odds(x, nights(".1", 12), 3, 0, 1);
        odds(x, nights(".1", 12), 3, 8, 1000000000001L);
        odds(x, nights(".1", 12), 3, 9, 1000000000001L);
        odds(x, nights(".1", 12), 3, 1, 1000000000000L);
    }

    /** 16: begins at THE NIGHT; DUSTED and SAID last as they are: the first night of the story goes by them. */
    private static void storyBegins() {
        GiantHeart x = told(15, "l1(n=0&s=8&d=8);l2(n=1&s=1&d=7);l3(n=2&s=2&d=0);l0(1=1)");
        odds(x, ".1,72,03", 1, 0, 1);
        odds(x, ".1,72,03,.0", 1, 0, 1);
        odds(x, ".1,.2", 1, 0, -2);
        odds(x, "72", 1, 0, -2);
        Check.due("the first night", x.night(8), 1);
        odds(x, "72,03", 1, 0, 1);
        odds(x, ".1", 1, 0, -2);
        Check.due("a story changes nothing", x.count(5), 1);
        Check.due("a story changes nothing", x.count(7), 1);
        Check.due("the second night", x.night(7), 2);
        odds(x, "03", 1, 0, 1);
        // wherever the heart is: from the PLACES told
        x.heart(3);
        odds(x, "03", 1, 0, 1);
        odds(x, "03", 4, 2, 1);
        odds(x, "03", 5, 8, 2);
    }

    private static void dust(GiantHeart x, String story, int places, long best, long above, long below) {
        Check.due("to dust behind " + story, Check.toDust(x, story, places, 0), best);
        Check.due("above, behind " + story, Check.toDust(x, story, places, 1), above);
        Check.due("below, behind " + story, Check.toDust(x, story, places, 2), below);
    }

    /** 17: the PLACE (0 to 7, told or not, or 8) ..; of like ones the lowest. */
    private static void dusting() {
        dust(told(15, "l0(1=1)"), ".0", 15, 0, 1, 4);
        dust(told(15, "l0(1=1)"), ".0", 1, 0, 1, 1);
        for (int d = 0; d <= 8; d++) {
            // dusting d alone draws the truth out of him
            dust(told(15, "lh(n>0&d=" + d + ");l0(1=1)"), ".0", 15, d, 1, 1);
            // d and those above it do
            dust(told(15, "lh(n>0&d>" + d + ");l0(1=1)"), ".0", 15, d < 8 ? d + 1 : 0, 1, d < 8 ? 1 : 4);
        }
        // one draw in ten: the first part of the sum is 9 of 40, behind one that is sure
        dust(told(15, "lh(d=3&r=9);l0(1=1)"), ".0", 15, 3, 13, 40);
        dust(told(15, "m3(d=7);l0(1=1)"), ".0", 7, 7, 1, 1);
        dust(told(15, "m3(d=7&r<5);l0(1=1)"), ".0", 7, 7, 1, 2);
        Check.due("it can't be so", Check.toDust(told(15, "l0(1=1)"), ".1", 15, 0), -2);
        // behind twelve NIGHTS: THE NIGHT is 12, and what he SAID last is the story's
        dust(told(15, "l0(n<12);lh(n=12&d=5);l0(1=1)"), nights(".0", 12), 15, 5, 1, 1);
        dust(told(15, "l0(n<12);lh(s=0&d=5);l0(1=1)"), nights(".0", 12), 15, 5, 1, 1);
        dust(told(15, "l0(n<11);l1(n=11);lh(s=1&d=5);l0(1=1)"), nights(".0", 11) + ",.1", 15, 5, 1, 1);
    }

    /** 14 to 17: THE NIGHT is 9999; would be above 9999; is above 9987. The document leaves free what is behind 512 calls,
     *  and no run comes there with fewer, but the bounds stand in the class. */
    private static void lastNights() {
        GiantHeart x = told(15, "l1(n=9999);l2(n=9998);l3(n=9987);l0(1=1)");
        for (int night = 0; night < 9999; night++) {
            if (night >= 9979) {
                Check.due("20 of " + night, x.tried(20, 0), night == 9979 ? 0 : -1);
                Check.due("up to 9999", x.tried(Math.min(20, 9999 - night), 0), 0);
                Check.due("above 9999", x.tried(10000 - night, 0), -1);
                boolean isTooLate = night > 9987;
                int n = Check.feed(x, night == 9987 ? ".3" : ".0");
                Check.due("a story from " + night, x.story(n, 1, 0), isTooLate ? -1 : 1);
                Check.due("the tape", x.count(3), 0);
                n = Check.feed(x, night == 9987 ? ".3" : ".0");
                Check.due("to dust from " + night, x.toDust(n, 1, 1), isTooLate ? -1 : 1);
            }
            if (night == 9987) {
                Check.due("twelve nights to 9998", Check.story(x, ".3," + nights(".0", 10) + ",.2", 1, 0), 1);
                Check.due("and the one behind", Check.toDust(x, ".3," + nights(".0", 10) + ",.2", 1, 2), 1);
            }
            x.night(8);
            if (night == 9996) {
                x.keep();
            }
        }
        Check.due("the last night", x.count(5), 9999);
        Check.due("he SAID on the last", x.count(7), 2);
        Check.due("no more", x.night(8), -1);
        Check.due("it stays", x.count(5), 9999);
        Check.due("none to try", x.tried(1, 0), -1);
        x.undo();
        Check.due("back", x.count(5), 9997);
        Check.due("two are left", x.tried(2, 1), 2);
        Check.due("not three", x.tried(3, 1), -1);
    }

    public static void main(String[] args) {
        thirtyTwoBits();
        fromTheLeft();
        conditions();
        dividedByNothing();
        placesOfTheLaw();
        letters();
        order();
        trials();
        stories();
        storyBegins();
        dusting();
        lastNights();
        Check.end("EdgesOfGiantTest");
    }
}
