/** Promises 9 to 13: tales judged, the soonest way, the plan, missed and hidden keys. */
final class SeekerTest {
    private SeekerTest() {
    }

    private static void taleTexts() {
        String thirtyTwo = "g0,g0,g0,g0,g0,g0,g0,g0,g0,g0,g0,g0,g0,g0,g0,g0,g0,g0,g0,g0,g0,g0,g0,g0,g0,g0,g0,g0,g0,g0,g0,g0";
        Object[][] all = {
            {"g", -1001}, {"g0", 0}, {"g0,", -1003}, {"g0;g1", -1002}, {"g 0", -1001}, {"x0", -1000}, {",g0", -1000},
            {"G0", -1000}, {"gg", -1001}, {"g00", -1002}, {"g4", -3001}, {"g9", -3001}, {"r4", -3001}, {"r3", 1},
            {"o8", -3001}, {"o7", 0}, {"w8", -3001}, {"w7", 0}, {"s9", -3001}, {"s7", 0}, {"k3", -3001}, {"k2", 0},
            {"g0,o9,x", -3004}, {thirtyTwo, 0}, {thirtyTwo + ",", -1096}, {thirtyTwo + ",k", -4096},
            {thirtyTwo + ",r9", -4096}, {thirtyTwo + ",x0", -1096}, {thirtyTwo + ",g0,g", -4096},
        };
        for (Object[] one : all) {
            Check.due("tale " + one[0], Check.tale(new GiantHeart(), (String) one[0], 0), (Integer) one[1]);
        }
        GiantHeart x = new GiantHeart();
        for (int i = 0; i < 6; i++) {
            x.feed(0x67302C67, 0x302C6730, 0x2C67302C, 0x67302C67, 0x302C302C);
        }
        for (int[] no : new int[][] {{0, 0}, {-1, 0}, {101, 0}, {2, -1}, {2, 6}}) {
            Check.due("no such tale", x.tale(no[0], no[1]), -1);
        }
        Check.due("the tape stays", x.count(3), 120);
        Check.due("a tale", x.tale(2, 5), 0);
        Check.due("empty then", x.count(3), 0);
        Check.due("not so many", x.tale(1, 0), -1);
        Check.tale(x, "x", 0);
        Check.due("empty behind a fault", x.count(3), 0);
    }

    private static void judged(GiantHeart x, String tale, long... due) {
        for (int what = 0; what < due.length; what++) {
            Check.due("tale " + tale + " " + what, Check.tale(x, tale, what), due[what]);
        }
    }

    /**
     * Islands 0 -3- 1 -4- 2; place 0 on 0; 1 on 1, lock 0; 2 within 1, lock 1; 3 within 2, wet; 4 on 0, wet, lock 7.
     * Keys: 0 and 5 in 0, 1 in 1, 6 in the wolf, 7 in the salmon. The heart is in 2 and flies to 3.
     */
    private static GiantHeart scene() {
        GiantHeart x = new GiantHeart();
        x.way(0, 1, 3);
        x.way(1, 2, 4);
        x.place(0, 0, -1, -1);
        x.place(1, 1, -1, 0);
        x.place(2, 0, 1, 1);
        x.place(3, 0, 2, -1);
        x.place(4, 0, -1, 7);
        x.more(2, false, 3);
        x.more(3, true, -1);
        x.more(4, true, -1);
        x.key(0, 0);
        x.key(5, 0);
        x.key(1, 1);
        x.key(6, 9);
        x.key(7, 10);
        x.heart(2);
        return x;
    }

    private static void judging() {
        GiantHeart x = scene();
        judged(x, "g1", 1, 3, 0, 0, 1, 0);
        judged(x, "g0", 0, 0, 0, 0, 0, 0);
        judged(x, "g2", 0, 0, 0, 0, 0, 0);
        judged(x, "g1,g2,g1,g0", 4, 14, 0, 0, 0, 0);
        judged(x, "r0", 0, 0, 0, 0, 0, 0);
        judged(x, "r3", 1, 1, 0, 0, 3, 0);
        judged(x, "r2,r1", 1, 1, 0, 0, 2, 0);
        judged(x, "r2,g3", 1, 1, 0, 0, 2, 0);
        judged(x, "o0", 1, 1, 1, 33, 0, 0);
        judged(x, "o0,o0", 1, 1, 1, 33, 0, 0);
        judged(x, "o1", 0, 0, 0, 0, 0, 0);
        judged(x, "o5", 0, 0, 0, 0, 0, 0);
        judged(x, "r1,o1", 1, 1, 0, 0, 1, 0);
        judged(x, "o0,r1,o1,o3", 3, 3, 3, 35, 1, 0);
        judged(x, "o0,r1,o1,o2,o3", 5, 5, 15, 35, 1, 1);
        judged(x, "o0,r1,o2", 2, 2, 1, 33, 1, 0);
        judged(x, "r1,w1,o2,s3", 4, 4, 14, 2, 1, 1);
        judged(x, "r1,w1,w2", 2, 2, 2, 2, 1, 0);
        judged(x, "r1,w2", 1, 1, 0, 0, 1, 0);
        judged(x, "r1,s3", 2, 2, 8, 0, 1, 0);
        judged(x, "r1,s1", 1, 1, 0, 0, 1, 0);
        judged(x, "r1,s3,w1,o2", 4, 4, 14, 2, 1, 1);
        judged(x, "w4", 0, 0, 0, 0, 0, 0);
        judged(x, "w0", 1, 1, 1, 33, 0, 0);
        judged(x, "s4,s3", 1, 1, 16, 0, 0, 0);
        judged(x, "o4", 0, 0, 0, 0, 0, 0);
        judged(x, "k2,o4", 2, 1, 16, 128, 0, 0);
        judged(x, "k2,k2", 1, 0, 0, 128, 0, 0);
        judged(x, "k2,s4", 1, 0, 0, 128, 0, 0);
        judged(x, "s4,k2", 1, 1, 16, 0, 0, 0);
        judged(x, "k1,w0", 1, 0, 0, 64, 0, 0);
        judged(x, "w0,k1", 1, 1, 1, 33, 0, 0);
        judged(x, "k0", 0, 0, 0, 0, 0, 0);
        x.key(2, 8);
        judged(x, "k0,r1", 1, 0, 0, 4, 0, 0);
        judged(x, "r1,k0", 1, 1, 0, 0, 1, 0);
    }

    private static void planIs(GiantHeart x, int... due) {
        Check.due("plan(-1)", x.plan(-1), due.length);
        for (int i = 0; i < due.length; i++) {
            Check.due("plan(" + i + ")", x.plan(i), due[i]);
        }
        Check.due("plan behind its end", x.plan(due.length), -3);
        Check.due("plan(-2)", x.plan(-2), -3);
    }

    private static void planning() {
        GiantHeart x = scene();
        // r1,w1,o2 and then 3 within 2: with the fewest days any of these; o before w and s
        Check.due("soonest(0)", x.soonest(0), 4);
        Check.due("soonest(1)", x.soonest(1), 3);
        Check.due("soonest(2)", x.soonest(2), -1);
        Check.due("soonest(-1)", x.soonest(-1), -1);
        planIs(x, 11, 31, 22, 23);
        Check.due("missed(1)", x.missed(1), 1);
        Check.due("missed(0)", x.missed(0), 0);
        Check.due("missed(2)", x.missed(2), 0);
        Check.due("missed(8)", x.missed(8), -1);
        Check.due("missed(-1)", x.missed(-1), -1);
        x.more(1, true, -1);
        // neither the wolf opens 1 now, nor the salmon without leaving 3 to the key that is not needed
        Check.due("soonest(0) of a wet one", x.soonest(0), 4);
        planIs(x, 11, 41, 22, 23);
        x.more(2, true, 3);
        x.key(1, -1);
        Check.due("2 by the salmon alone", x.soonest(0), 5);
        planIs(x, 20, 11, 21, 42, 23);
        Check.due("missed(0): never then", x.missed(0), -2);
        x.key(0, -1);
        Check.due("never", x.soonest(0), -2);
        Check.due("never", x.soonest(1), -2);
        Check.due("never", x.plan(-1), -2);
        Check.due("never ahead of no such place", x.plan(99), -2);
        Check.due("missed: never as it is", x.missed(0), -3);
        Check.due("missed(9): NONE first", x.missed(9), -1);
    }

    private static void likeOnes() {
        GiantHeart x = new GiantHeart();
        Check.due("no heart", x.soonest(0), -1);
        Check.due("no heart", x.plan(-1), -1);
        Check.due("no heart", x.plan(0), -1);
        Check.due("no heart", x.missed(0), -1);
        x.place(0, 0, -1, -1);
        x.place(1, 0, -1, -1);
        x.more(0, false, 1);
        Check.due("two of one", x.soonest(1), 2);
        planIs(x, 20, 21);
        x.heart(1);
        planIs(x, 21);
        x.way(0, 1, 1);
        x.place(2, 1, -1, -1);
        x.heart(2);
        // going there costs a day as the raven does, and g is ahead of r
        planIs(x, 1, 22);
        x.way(0, 1, 2);
        planIs(x, 11, 22);

        // two of one lock, far away, its key in the raven: as many days by one way as by two, so the one act
        GiantHeart y = new GiantHeart();
        y.way(0, 1, 1);
        y.way(1, 2, 1);
        y.way(0, 2, 2);
        y.place(0, 2, -1, 0);
        y.place(1, 2, -1, 0);
        y.more(0, false, 1);
        y.key(0, 8);
        Check.due("soonest(0)", y.soonest(0), 4);
        planIs(y, 2, 30, 50, 21);
        Check.due("missed(0)", y.missed(0), -2);
        y.way(0, 2, 3);
        planIs(y, 1, 2, 30, 50, 21);

        // fewest places OPENED among ways of two days: the wolf opens it at once, the key is a day off
        GiantHeart z = new GiantHeart();
        z.place(0, 0, -1, -1);
        z.place(1, 0, -1, 0);
        z.place(2, 0, 1, -1);
        z.key(0, 0);
        z.heart(2);
        Check.due("days", z.soonest(0), 2);
        Check.due("opened", z.soonest(1), 2);
        planIs(z, 31, 22);
        z.key(1, 9);
        z.place(2, 0, 1, 1);
        // the wolf's key is needed or the wolf: o0,o1,w2 or k1,o0,o1,o2 or .. : three days, the fewest acts
        Check.due("days", z.soonest(0), 3);
        Check.due("opened", z.soonest(1), 3);
        planIs(z, 20, 21, 32);
    }

    private static void hiding() {
        // a chain: 0 open, 1 by key 0, 2 by key 1, the heart in 3 by key 2; all wet, so the salmon saves one step
        GiantHeart x = new GiantHeart();
        for (int p = 0; p < 4; p++) {
            x.place(p, 0, -1, p - 1);
            x.more(p, true, -1);
        }
        x.place(4, 0, -1, -1);
        x.key(0, 0);
        x.key(1, 1);
        x.key(2, 4);
        x.key(3, 10);
        Check.due("the heart's place open", x.soonest(0), 1);
        x.heart(3);
        x.key(4, 0);
        Check.due("by the salmon", x.soonest(0), 1);
        x.place(5, 0, -1, -1);
        x.more(3, true, 5);
        x.more(5, false, -1);
        Check.due("two", x.soonest(0), 2);
        for (int[] no : new int[][] {{1, 10}, {0, 10}, {-1, 10}, {256 + 3, 10}, {31, 10}, {1 + 8, 10}, {1 + 32, 10},
            {3, 2}, {3, 8}, {3, 9}, {3, 12}, {3, -1}}) {
            Check.due("no such keys", x.hidden(no[0], no[1]), -1);
        }
        Check.due("as late as ever", x.hidden(7, 10), 2);
        Check.due("the least row", x.hidden(7, 0), 0);
        Check.due("the least row", x.hidden(7, 1), 1);
        Check.due("the least row", x.hidden(7, 2), 2);

        // no beast helps: each is wet, and the salmon gave; the rows differ in days now
        GiantHeart y = new GiantHeart();
        y.place(0, 0, -1, -1);
        y.place(1, 0, -1, 0);
        y.place(2, 0, -1, 1);
        y.place(3, 0, -1, 2);
        y.place(4, 0, 3, 3);
        y.place(5, 0, 4, 3);
        for (int p = 0; p < 6; p++) {
            y.more(p, true, p == 4 ? 5 : -1);
        }
        y.heart(4);
        y.key(0, 0);
        y.key(1, 0);
        y.key(2, 0);
        y.key(3, 10);
        Check.due("all in one", y.soonest(0), 4);
        Check.due("all in one", y.hidden(7, 10), 4);
        Check.due("all in one", y.hidden(7, 0), 0);
        y.key(0, 2);
        y.key(1, 1);
        Check.due("key 2 at once", y.soonest(0), 4);
        // key 2 comes last if 1 is in 0, 0 in 2 and 2 in 1; also if 0 is in 0, 1 in 1, 2 in 2, a greater row
        Check.due("later", y.hidden(7, 10), 6);
        Check.due("0 stays", y.hidden(7, 0), 0);
        Check.due("1 gets that of 2", y.hidden(7, 1), 2);
        Check.due("2 gets that of 1", y.hidden(7, 2), 1);
        Check.due("nothing is changed", y.count(10), 2);
        Check.due("and it is so", y.hidden(7, 11), 6);
        Check.due("0", y.count(10), 2);
        Check.due("1", y.count(11), 0);
        Check.due("2", y.count(12), 1);
        Check.due("3", y.count(13), 10);
        Check.due("later now", y.soonest(0), 6);
        // of two: 0 is in 2, 1 in 0, 2 in 1: with 0 and 1 changed 2 is in 1 behind 0 in 0; with 1 and 2, 2 is in 0
        Check.due("two as they are", y.hidden(3, 10), 6);
        Check.due("two as they are", y.hidden(3, 0), 0);
        Check.due("two as they are", y.hidden(6, 2), 2);
        Check.due("no such key of these", y.hidden(6, 0), -1);
        // of four, the salmon free to open one: 1 in 0, 0 in 2, 3 in 1, and 2 in 3, which the salmon opens
        y.key(3, 3);
        Check.due("four", y.hidden(15, 10), 6);
        Check.due("four: 0", y.hidden(15, 0), 0);
        Check.due("four: 1", y.hidden(15, 1), 1);
        Check.due("four: 2", y.hidden(15, 2), 3);
        Check.due("four: 3", y.hidden(15, 3), 2);
        Check.due("four, and it is so", y.hidden(15, 11), 6);
        int[] so = {2, 0, 3, 1};
        for (int k = 0; k < 4; k++) {
            Check.due("four: " + k + " is there", y.count(10 + k), so[k]);
        }
        y.key(3, -1);
        Check.due("never by any", y.hidden(7, 10), -2);
        Check.due("never by any", y.hidden(7, 0), -2);
        Check.due("never by any", y.hidden(7, 11), -2);
        Check.due("none of them", y.hidden(7, 3), -1);
        Check.due("no heart", new GiantHeart().hidden(7, 10), -1);
    }

    public static void main(String[] args) {
        taleTexts();
        judging();
        planning();
        likeOnes();
        hiding();
        Check.end("SeekerTest");
    }
}
