/**
 * The edges that the document's sentences name of its texts: THE LAW (promise 8), a TALE (9), a STORY (16, 17): how
 * long, how many, each FAULT at its place, the first from the left; what is behind the first n bytes is not looked at.
 * A sentence stands above its test.
 */
final class EdgesOfTextsTest {
    private EdgesOfTextsTest() {
    }

    private static final int LAW = 0;
    private static final int TALE = 1;
    private static final int STORY = 2;

    private static GiantHeart oneOf(int kind) {
        GiantHeart x = new GiantHeart();
        if (kind == STORY) {
            x.place(0, 0, -1, -1);
        }
        return x;
    }

    /** The first n bytes of the text as a LAW, a TALE (what 0) or a STORY (whether it can be 0, then). */
    private static long read(GiantHeart x, int kind, String text, int n) {
        Check.feed(x, text);
        switch (kind) {
            case LAW: return x.law(n);
            case TALE: return x.tale(n, 0);
            default: return x.story(n, 1, 0);
        }
    }

    private static void due(int kind, String text, int n, long due) {
        GiantHeart x = oneOf(kind);
        String name = "the first " + n + " of " + text;
        Check.due(name, read(x, kind, text, n), due);
        Check.due(name + ", the tape", x.count(3), 0);
        if (kind == LAW) {
            Check.due(name + ", clauses", x.count(2), Math.max(due, 0));
        }
        if (kind == STORY && due <= -1000) {
            Check.feed(x, text);
            Check.due("toDust: " + name, x.toDust(n, 1, 0), due);
        }
    }

    private static void due(int kind, String text, long due) {
        due(kind, text, text.length(), due);
    }

    /** Each text that ends too soon: 1 at the end, though what would go on with it stands behind. */
    private static void ends(int kind, String text, int... whole) {
        GiantHeart used = oneOf(kind);
        for (int n = text.length(); n >= 1; n--) {
            int clauses = 0;
            for (int i = 0; i < whole.length; i++) {
                clauses = whole[i] == n ? i + 1 : clauses;
            }
            int due = clauses == 0 ? -1000 - n : kind == LAW ? clauses : kind == TALE ? 0 : 1;
            due(kind, text, n, due);
            // also where a longer one was read before
            Check.due("the first " + n + " of " + text + " again", read(used, kind, text, n), due);
        }
    }

    private static long withSign(int kind, String text, int sign) {
        String whole = text.replace('#', (char) sign);
        return read(oneOf(kind), kind, whole, whole.length());
    }

    /** Of all 256 bytes: with the signs in place of the # the text is right; the others can't stand there. */
    private static void stands(int kind, String text, String signs) {
        stands(kind, text, signs, "", 0);
    }

    /** As above, but with some others the text has a FAULT that is not this one. */
    private static void stands(int kind, String text, String signs, String others, int fault) {
        int at = text.indexOf('#');
        for (int sign = 0; sign < 256; sign++) {
            long answer = withSign(kind, text, sign);
            String name = "byte " + sign + " in " + text;
            if (signs.indexOf(sign) >= 0) {
                Check.due(name + " can stand", answer > -1000, true);
            } else {
                Check.due(name + " can't stand", answer, others.indexOf(sign) >= 0 ? fault : -1000 - at);
            }
        }
    }

    /** As above, but the text can go on behind the signs, and has a FAULT further on. */
    private static void goesOn(int kind, String text, String signs) {
        int at = text.indexOf('#');
        for (int sign = 0; sign < 256; sign++) {
            boolean isWrong = withSign(kind, text, sign) == -1000 - at;
            Check.due("byte " + sign + " can't stand in " + text, isWrong, signs.indexOf(sign) < 0);
        }
    }

    // ---- THE LAW

    /** A TEXT of at most 240 bytes, no blanks. law: the first n bytes (1 to 240). */
    private static void lawLengths() {
        String longest = "m1" + "+1".repeat(117) + "(1=1)";
        Check.due("its length", longest.length(), 241);
        due(LAW, longest, 240, -1240);
        longest = "m1" + "+1".repeat(116) + "(1=1)";
        Check.due("its length", longest.length(), 239);
        due(LAW, longest, 1);
        due(LAW, longest + "x", -1239);
        due(LAW, longest + ";", -1240);
        longest = "m1" + "+1".repeat(115) + "+11(1=1)";
        Check.due("its length", longest.length(), 240);
        due(LAW, longest, 1);
        due(LAW, longest + "xxxxxxxxxxxxxxxxxxxx", 240, 1);
        due(LAW, "m1(1=1)", 1, -1001);
        due(LAW, "x", 1, -1000);
        // of 16 clauses, 240 bytes
        String clause = "m1(10000=n+3%7)";
        String sixteen = (clause + ";").repeat(14) + clause;
        Check.due("its length", sixteen.length(), 239);
        due(LAW, sixteen, 15);
        String most = "m1(100=n*3%7)";
        most = (most + ";").repeat(15) + most;
        Check.due("its length", most.length(), 223);
        due(LAW, most, 16);
        due(LAW, most + ";m1(1=1);", -4224);
        for (int n = 1; n < 224; n++) {
            int clauses = (n + 1) / 14;
            if (n % 14 == 13) {
                due(LAW, most, n, clauses);
            }
        }
        // in place of the one before; the one before stays behind a fault and NONE
        GiantHeart x = new GiantHeart();
        Check.due("sixteen", read(x, LAW, most, 223), 16);
        Check.due("a fault", read(x, LAW, most + ";m", 225), -4224);
        Check.due("sixteen stay", x.count(2), 16);
        Check.due("NONE", x.law(1), -1);
        Check.due("sixteen stay", x.count(2), 16);
        Check.due("one in place", read(x, LAW, "l0(1=1)", 7), 1);
        Check.due("one", x.count(2), 1);
        Check.due("sixteen again", read(x, LAW, most, 223), 16);
        Check.due("sixteen", x.count(2), 16);
        // nothing of a longer one before is left
        x.place(0, 0, -1, -1);
        x.place(3, 0, -1, -1);
        Check.due("three", Check.law(x, "m3(1=2);l0(1=2);l3(1=1);m3(1=1)"), 4);
        Check.due("one", Check.law(x, "m3(1=2)"), 1);
        Check.due("says where it is", x.night(8), 0);
        Check.due("he does not move it", x.count(1), 0);
        // each in place of the one before, however many there were
        for (int i = 0; i < 30; i++) {
            String law = i % 2 == 0 ? "l1+1+1(n<99)" : "l1+1(n>99);l0*1(1=1&2=2)";
            Check.due("law " + i, Check.law(x, law), 1 + i % 2);
            Check.due("night " + i, x.night(8), i % 2 == 0 ? 3 : 0);
        }
    }

    /** 1 what can't stand there (the end, too). */
    private static void lawSigns() {
        ends(LAW, "m1+n(1=1&!(h<2)|[d]>s);l0(1=1)", 22, 30);
        String factor = "0123456789nhidswkor[";
        String joins = "+-*/%";
        stands(LAW, "#1(1=1)", "ml");
        stands(LAW, "m1(1=1);#1(1=1)", "ml");
        stands(LAW, "m#(1=1)", factor.replace("[", ""), "[", -1002);
        stands(LAW, "m[#](1=1)", factor.replace("[", ""), "[", -1003);
        goesOn(LAW, "m1#n(1=1)", joins + "(0123456789");
        goesOn(LAW, "mn#(1=1)", joins + "(");
        stands(LAW, "m1(n#1)", "<>=", joins, -1006);
        goesOn(LAW, "m1(#=1)", "0123456789nhidswkor[(!");
        stands(LAW, "m1(1=#)", "0123456789nhidswkor", "[", -1006);
        stands(LAW, "m1(1=n#", ")", joins + "&|", -1007);
        stands(LAW, "m1(1=1)#m1(1=1)", ";");
        stands(LAW, "m1((1=n#", "", joins + "&|)", -1008);
        stands(LAW, "m[n#", "", joins + "]", -1004);
        due(LAW, "m1 (1=1)", -1002);
        due(LAW, " m1(1=1)", -1000);
        due(LAW, "m1(1=1) ", -1007);
        due(LAW, "m1(1=1)\n", -1007);
        due(LAW, "m1(1 =1)", -1004);
    }

    /** 2 a sixth digit, at it; a number of one to five digits. */
    private static void lawNumbers() {
        for (String digits : new String[] {"0", "9", "00", "12345", "99999", "00000"}) {
            due(LAW, "m" + digits + "(1=1)", 1);
            due(LAW, "m1(" + digits + "=" + digits + ")", 1);
            due(LAW, "m1([" + digits + "]<" + digits + "*" + digits + ")", 1);
        }
        for (String digits : new String[] {"000000", "123456", "9999999999", "100000"}) {
            due(LAW, "m" + digits + "(1=1)", -2006);
            due(LAW, "m" + digits, -2006);
            due(LAW, "m" + digits, 6, -1006);
            due(LAW, "l1(" + digits, -2008);
            due(LAW, "l1(1=1+" + digits, -2012);
            due(LAW, "l[" + digits + "](1=1)", -2007);
        }
        due(LAW, "m12345a", -1006);
        due(LAW, "m12345", -1006);
        due(LAW, "m12345n", -1006);
        due(LAW, "m12345+12345(1=1)", 1);
    }

    /** 4 a 17th CLAUSE, at its letter (if that can stand there). */
    private static void lawClauses() {
        String sixteen = "m1(1=1);".repeat(15) + "l1(1=1)";
        due(LAW, sixteen, 16);
        due(LAW, sixteen + ";", -1128);
        due(LAW, sixteen + ";m", -4128);
        due(LAW, sixteen + ";l", -4128);
        due(LAW, sixteen + ";l123456(1=1)", -4128);
        due(LAW, sixteen + ";n", -1128);
        due(LAW, sixteen + ";1", -1128);
        due(LAW, sixteen + ";;", -1128);
        due(LAW, sixteen + ";M", -1128);
        due(LAW, sixteen + ",m", -1127);
        due(LAW, sixteen + "m", -1127);
        // the first from the left
        due(LAW, sixteen.replace("l1", "l1+") + ";m", -1123);
    }

    /** 5 a seventh of ( [ ! that are open in one another, at it (the ( of the CLAUSE counts; a ! till its PIECE ends). */
    private static void lawDepths() {
        for (int deep = 0; deep <= 7; deep++) {
            String opens = "[".repeat(deep);
            String closes = "]".repeat(deep);
            // the E of a CLAUSE stands ahead of its (
            due(LAW, "m" + opens + "1" + closes + "(1=1)", deep <= 6 ? 1 : -5007);
            due(LAW, "m1+" + opens + "1" + closes + "*2(1=1)", deep <= 6 ? 1 : -5009);
            due(LAW, "m" + opens + "1" + closes + "+" + opens + "1" + closes + "(1=1)", deep <= 6 ? 1 : -5007);
            due(LAW, "m1(" + opens + "1" + closes + "=1)", deep <= 5 ? 1 : -5008);
            due(LAW, "m1(1=" + opens + "1" + closes + ")", deep <= 5 ? 1 : -5010);
            due(LAW, "m1(1=1|1=" + opens + "1" + closes + ")", deep <= 5 ? 1 : -5014);
            due(LAW, "m1(" + "(".repeat(deep) + "1=1" + ")".repeat(deep) + ")", deep <= 5 ? 1 : -5008);
            due(LAW, "m1(" + "!".repeat(deep) + "1=1)", deep <= 5 ? 1 : -5008);
            due(LAW, "m1(" + "!".repeat(deep) + "1=1&" + "!".repeat(5) + "1=1|" + "!".repeat(5) + "1=1)",
                deep <= 5 ? 1 : -5008);
        }
        // six are open, the seventh is any of the three, though what is behind it can't stand there
        for (String open : new String[] {"(", "!", "["}) {
            due(LAW, "m1(((((" + open, -1008);
            due(LAW, "m1((((((" + open, -5008);
            due(LAW, "m1(!!!!!" + open, -5008);
            due(LAW, "m1((!(!(" + open + "x", -5008);
        }
        due(LAW, "m1((!(!(1=[", -5010);
        due(LAW, "m1((!(!(1=1+[", -5012);
        // a ! is open till its PIECE ends: behind the & and the | it is not
        due(LAW, "m1((((!1=1&(1=1)))))", 1);
        due(LAW, "m1(((((!1=1|(1=1)))))", -1021);
        due(LAW, "m1((((!1=1|!(1=1)))))", 1);
        due(LAW, "m1((((!!1=[1]))))", -5010);
        due(LAW, "m1((((!1=[1]))))", 1);
        due(LAW, "m1((((!(1=1)&[1]=1))))", 1);
        // what is closed is not open
        due(LAW, "m1((((((1=1)&(1=1)))&(((1=1)))))", -1032);
        due(LAW, "m1((((((1=1)))))&(((((1=1))))))", 1);
        // where 5 and 1 fit a sign: [ can't stand where a sign between two is due
        due(LAW, "m1((((((1[", -1009);
        due(LAW, "m1((((((1=1[", -1011);
        due(LAW, "m[[[[[[1[", -1008);
        due(LAW, "m[[[[[[(", -1007);
        due(LAW, "m[[[[[[!", -1007);
    }

    // ---- a TALE

    /** ACTS (32 at most) with a , between two: a letter of g r o w s k and a digit; at most 100 bytes. */
    private static void tales() {
        ends(TALE, "g0,r1,o2,w3,s4,k2", 2, 5, 8, 11, 14, 17);
        stands(TALE, "#1", "growsk");
        stands(TALE, "o1,#1", "growsk");
        stands(TALE, "o1#o1", ",");
        stands(TALE, "g#", "0123", "456789", -3001);
        stands(TALE, "r#", "0123", "456789", -3001);
        stands(TALE, "o#", "01234567", "89", -3001);
        stands(TALE, "w#", "01234567", "89", -3001);
        stands(TALE, "s#", "01234567", "89", -3001);
        stands(TALE, "k#", "012", "3456789", -3001);
        for (int digit = 0; digit < 10; digit++) {
            // the first from the left: a digit above 3 stands ahead of the x
            due(TALE, "k2,g" + digit + ",x", digit <= 3 ? -1006 : -3004);
        }
        due(TALE, "k2,s8,x", -3004);
        due(TALE, "k2,s7,x", -1006);
        due(TALE, "g1 ,g1", -1002);
        due(TALE, " g1", -1000);
        due(TALE, "g1\n", -1002);
        String most = "o7,".repeat(31) + "k2";
        due(TALE, most, 0);
        due(TALE, most + ",", -1095 - 1);
        for (char letter : "growsk".toCharArray()) {
            due(TALE, most + "," + letter, -4096);
            due(TALE, most + "," + letter + "9", -4096);
        }
        due(TALE, most + ",x", -1096);
        due(TALE, most + ",1", -1096);
        due(TALE, most + ",,", -1096);
        due(TALE, most + ";g", -1095);
        due(TALE, most + "g", -1095);
        due(TALE, most + ",g1,g", 100, -4096);
        due(TALE, most + ",g1,g1", 100, -4096);
        due(TALE, most.replace("k2", "k3") + ",g1", -3094);
        due(TALE, "o7,".repeat(31) + "kk", -1094);
        GiantHeart x = new GiantHeart();
        Check.feed(x, most + ",g1,g1");
        Check.due("101 bytes", x.tale(101, 0), -1);
        Check.due("the tape stays", x.count(3), 120);
        Check.due("100 bytes", x.tale(100, 0), -4096);
        Check.due("it is empty", x.count(3), 0);
    }

    // ---- a STORY

    /** NIGHTS (12 at most) with a , between two: a digit 0 to 7, or a dot; a digit 0 to 7; at most 60 bytes. */
    private static void stories() {
        ends(STORY, ".0,00,70,.0", 2, 5, 8, 11);
        stands(STORY, "#0", ".01234567");
        stands(STORY, ".0,#0", ".01234567");
        stands(STORY, ".0#.0", ",");
        // he says 0, the only one that is told
        stands(STORY, ".#", "01234567");
        stands(STORY, "0#", "01234567");
        stands(STORY, ".0,7#", "01234567");
        String most = ".0,".repeat(11) + "70";
        due(STORY, most, 1);
        due(STORY, most + ",", -1036);
        for (char first : ".01234567".toCharArray()) {
            due(STORY, most + "," + first, -4036);
            due(STORY, most + "," + first + "0", -4036);
            due(STORY, most + "," + first + "x", -4036);
        }
        due(STORY, most + ",8", -1036);
        due(STORY, most + ",,", -1036);
        due(STORY, most + ",x", -1036);
        due(STORY, most + ";.", -1035);
        due(STORY, most + "0", -1035);
        due(STORY, most.replace("70", "78") + ",.0", -1034);
        String longer = ".0,".repeat(20);
        due(STORY, longer, 60, -4036);
        GiantHeart x = oneOf(STORY);
        Check.feed(x, longer + ".0");
        Check.due("61 bytes", x.story(61, 1, 0), -1);
        Check.due("61 bytes", x.toDust(61, 1, 0), -1);
        Check.due("the tape stays", x.count(3), 80);
        Check.due("60 bytes", x.story(60, 1, 0), -4036);
        Check.due("it is empty", x.count(3), 0);
        Check.feed(x, longer + ".0");
        Check.due("60 bytes", x.toDust(60, 1, 0), -4036);
        Check.due("it is empty", x.count(3), 0);
        Check.feed(x, "..");
        Check.due("1 byte", x.story(1, 1, 0), -1001);
    }

    public static void main(String[] args) {
        lawLengths();
        lawSigns();
        lawNumbers();
        lawClauses();
        lawDepths();
        tales();
        stories();
        Check.end("EdgesOfTextsTest");
    }
}
