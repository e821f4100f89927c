/** Promises 14 to 17: nights, nights tried, stories and what to dust. */
final class GiantTest {
    private GiantTest() {
    }

    private static void nights() {
        GiantHeart x = new GiantHeart();
        Check.due("no heart", x.night(8), -1);
        x.place(0, 0, -1, -1);
        x.place(1, 0, -1, -1);
        x.place(2, 0, -1, -1);
        Check.due("night(9)", x.night(9), -1);
        Check.due("night(-1)", x.night(-1), -1);
        Check.due("nothing is changed", x.count(5) + x.count(4), 1);
        Check.due("without a law he says where it is", x.night(7), 0);
        Check.due("X: one draw a night", x.count(4), 39022);
        Check.due("the night", x.count(5), 1);
        Check.due("dusted", x.count(6), 7);
        Check.due("said", x.count(7), 0);
        Check.law(x, "m1(n=1);l2(n=1);ls(n>1)");
        Check.due("he says 2", x.night(8), 2);
        Check.due("it is in 1", x.count(1), 1);
        Check.due("X", x.count(4), (25173 * 39022 + 13849) & 65535);
        Check.due("nothing dusted", x.count(6), 8);
        Check.due("what he said last", x.night(0), 2);
        Check.due("it stays", x.count(1), 1);
        GiantHeart y = new GiantHeart();
        y.place(0, 0, -1, -1);
        y.place(1, 0, -1, -1);
        Check.law(y, "l1(s=8);l0(1=1)");
        Check.due("nothing said yet", y.night(8), 1);
        Check.due("said 1", y.night(8), 0);
        GiantHeart z = new GiantHeart();
        z.place(0, 0, -1, -1);
        z.seed(65535);
        z.night(8);
        // 25173 * 65535 + 13849 is -25173 + 13849 modulo 65536
        Check.due("X from 65535", z.count(4), 65536 - 25173 + 13849);
    }

    private static void trials() {
        GiantHeart x = new GiantHeart();
        Check.due("no heart", x.tried(1, 0), -1);
        for (int p = 0; p < 4; p++) {
            x.place(p, 0, -1, -1);
        }
        for (int[] no : new int[][] {{0, 0}, {21, 0}, {-1, 0}, {1, -1}, {1, 4}}) {
            Check.due("no such trial", x.tried(no[0], no[1]), -1);
        }
        // she dusts what he said: at first nothing; he moves on in each night but the first, and says where it was
        Check.law(x, "m[h+1]%4(n>0);l[h+3]%4(d<8);l3(1=1)");
        long[][] due = {{0, 3, 0, 0}, {1, 0, 0, 1}, {2, 1, 0, 2}, {3, 2, 0, 3}, {0, 3, 0, 4}};
        for (int n = 1; n <= due.length; n++) {
            for (int what = 0; what < 4; what++) {
                Check.due("tried(" + n + ", " + what + ")", x.tried(n, what), due[n - 1][what]);
            }
        }
        Check.due("tried(20, 3)", x.tried(20, 3), 19);
        Check.due("nothing is changed", x.count(1) + x.count(5), 0);
        Check.due("nothing is changed", x.count(4), 1);
        Check.due("nothing is changed", x.count(7), 8);
        Check.law(x, "l2(h=0);ld(d<8)");
        x.night(5);
        Check.due("what he said is dusted", x.tried(1, 1), 2);
        Check.law(x, "m2(1=1);lh(1=1)");
        Check.due("truths", x.tried(3, 2), 3);
        Check.due("it is moved but once", x.tried(3, 3), 1);
    }

    private static void storyTexts() {
        String twelve = ".0,.0,.0,.0,.0,.0,.0,.0,.0,.0,.0,.0";
        Object[][] all = {
            {".", -1001}, {".0", 1}, {"00", 1}, {"70", 1}, {".8", -1001}, {"80", -1000}, {"..", -1001}, {".0,", -1003},
            {".0;.0", -1002}, {" 0", -1000}, {"x", -1000}, {".0,8", -1003}, {".0,.9", -1004}, {"000", -1002},
            {twelve, 1}, {twelve + ",", -1036}, {twelve + ",7", -4036}, {twelve + ",.x", -4036}, {twelve + ",8", -1036},
            {twelve + "," + twelve.substring(0, 24), -4036},
        };
        for (Object[] one : all) {
            GiantHeart x = new GiantHeart();
            x.place(0, 0, -1, -1);
            int due = (Integer) one[1];
            Check.due("story " + one[0], Check.story(x, (String) one[0], 1, 0), due);
            Check.due("toDust " + one[0], Check.toDust(x, (String) one[0], 1, 1), due);
            Check.due("the tape is empty", x.count(3), 0);
        }
        GiantHeart x = new GiantHeart();
        for (int i = 0; i < 5; i++) {
            x.feed(0x2E302C2E, 0x302C2E30, 0x2C2E302C, 0x2E302C2E, 0x302C2E30);
        }
        for (int n : new int[] {0, -1, 61, 101}) {
            Check.due("no such story", x.story(n, 1, 0), -1);
            Check.due("no such toDust", x.toDust(n, 1, 0), -1);
        }
        Check.due("the tape stays", x.count(3), 100);
        Check.due("no such places", x.story(2, 1, 0), -3);
        Check.due("the tape is empty", x.count(3), 0);
        Check.due("not so many", x.story(1, 1, 0), -1);
        x.place(0, 0, -1, -1);
        x.place(2, 0, -1, -1);
        for (int places : new int[] {0, 2, 3, 7, 256 + 1, -1, Integer.MIN_VALUE + 1}) {
            Check.due("no such places", Check.story(x, ".0", places, 0), -3);
            Check.due("no such places", Check.toDust(x, ".0", places, 0), -3);
        }
        Check.due("no such what", Check.story(x, ".0", 5, 17), -3);
        Check.due("no such what", Check.story(x, ".0", 5, -1), -3);
        Check.due("no such what", Check.toDust(x, ".0", 5, 3), -3);
        Check.due("no such what", Check.toDust(x, ".0", 5, -1), -3);
        Check.due("a fault first", Check.story(x, ".x", 2, 99), -1001);
        Check.due("no such what ahead of what can't be", Check.story(x, ".7", 5, 17), -3);
        Check.due("it can't be so", Check.story(x, ".7", 5, 0), -2);
        Check.due("it can't be so", Check.toDust(x, ".7", 5, 0), -2);
    }

    private static void oddsAre(GiantHeart x, String story, int places, long... due) {
        int can = 0;
        for (int p = 0; p < 8; p++) {
            long above = 2 * p < due.length ? due[2 * p] : 0;
            long below = 2 * p < due.length ? due[2 * p + 1] : 1;
            can += above > 0 ? 1 : 0;
            Check.due("above of " + p + " by " + story, Check.story(x, story, places, p), above);
            Check.due("below of " + p + " by " + story, Check.story(x, story, places, 8 + p), below);
        }
        Check.due("in how many by " + story, Check.story(x, story, places, 16), can);
    }

    private static GiantHeart four(String law) {
        GiantHeart x = new GiantHeart();
        for (int p = 0; p < 4; p++) {
            x.place(p, 0, -1, -1);
        }
        Check.law(x, law);
        return x;
    }

    private static void odds() {
        GiantHeart x = four("mr%3(1=1);l0(1=1)");
        oddsAre(x, ".0", 8, 2, 5, 3, 10, 3, 10);
        oddsAre(x, ".0,.0", 15, 2, 5, 3, 10, 3, 10);
        oddsAre(four("l0(1=1)"), ".0", 11, 1, 3, 1, 3, 0, 1, 1, 3);
        // he moves on in four draws of ten, and then he says 3; else the truth
        x = four("m[h+1]%4(r<4);l3(r<4)");
        oddsAre(x, ".3", 1, 0, 1, 1, 1);
        oddsAre(x, ".0", 15, 1, 1);
        // from 3: a truth of six in ten; from 0, 1, 2, 3: four of ten each
        oddsAre(x, ".3", 15, 2, 11, 2, 11, 2, 11, 5, 11);
        oddsAre(x, ".3,.3", 1, 0, 1, 0, 1, 1, 1);
        oddsAre(x, ".3,.1", 1, 0, 1, 1, 1);
        // 8: said nothing yet; then what the story says
        x = four("m1(s=8);m2(s=1);l1(s=8);l3(s=1)");
        oddsAre(x, ".1,.3", 1, 0, 1, 0, 1, 1, 1);
        x.night(8);
        // now he said 1
        oddsAre(x, ".3", 1, 0, 1, 0, 1, 1, 1);
        Check.due("the heart is not looked at", x.count(1), 1);
        // the story begins at the night, 1
        x = four("mn(1=1);l0(1=1)");
        x.night(8);
        oddsAre(x, ".0,.0", 1, 0, 1, 0, 1, 1, 1);
        // dusted: a digit, or 8 for the dot
        x = four("md(d<8);l3(d=8);l0(1=1)");
        oddsAre(x, "20", 1, 0, 1, 0, 1, 1, 1);
        oddsAre(x, ".3", 1, 1, 1);
        oddsAre(x, "70", 2, 0, 1, 1, 1);
        // twelve nights of ten draws each, of eight places: weights of thirteen digits
        x = four("m[h+r]%4(r<3);l0(1=1)");
        for (int p = 4; p < 8; p++) {
            x.place(p, 0, -1, -1);
        }
        String twelve = ".0,.0,.0,.0,.0,.0,.0,.0,.0,.0,.0,.0";
        // 7 and r goes elsewhere for r of 0, 1, 2: it stays in 7 of ten, twelve times
        Check.due("above of 7", Check.story(x, twelve, 255, 7), 13841287201L);
        Check.due("below of 7", Check.story(x, twelve, 255, 8 + 7), 8000000000000L);
    }

    private static void dusting() {
        // what she dusts makes no difference: the lowest, and the odds as they are
        GiantHeart x = four("l0(1=1)");
        Check.due("the lowest", Check.toDust(x, ".0", 7, 0), 0);
        Check.due("one of three", Check.toDust(x, ".0", 7, 1), 1);
        Check.due("one of three", Check.toDust(x, ".0", 7, 2), 3);
        // dusting 6, which is not told, makes him say the truth
        x = four("lh(d=6);l0(1=1)");
        Check.due("one that is not told", Check.toDust(x, ".0", 7, 0), 6);
        Check.due("sure", Check.toDust(x, ".0", 7, 1), 1);
        Check.due("sure", Check.toDust(x, ".0", 7, 2), 1);
        // nothing dusted tells most
        x = four("lh(d=8&n>0);l0(1=1)");
        Check.due("nothing", Check.toDust(x, "10", 14, 0), 8);
        Check.due("the night behind the story counts", Check.toDust(x, "10", 14, 1), 1);
        // behind the story he has said 0: then dusting 2 draws the truth out of him in seven of ten
        x = four("lh(d=2&s=0&r<7);l0(1=1)");
        Check.due("dust 2", Check.toDust(x, ".0", 3, 0), 2);
        // said 0: from 0 ten, from 1 three; said 1: from 1 seven: 17 of 20
        Check.due("17", Check.toDust(x, ".0", 3, 1), 17);
        Check.due("of 20", Check.toDust(x, ".0", 3, 2), 20);
        // where it is behind that night: he moves it then
        x = four("m3(d=1);l0(1=1)");
        Check.due("into 3", Check.toDust(x, ".0", 7, 0), 1);
        Check.due("sure", Check.toDust(x, ".0", 7, 2), 1);
    }

    public static void main(String[] args) {
        nights();
        trials();
        storyTexts();
        odds();
        dusting();
        Check.end("GiantTest");
    }
}
