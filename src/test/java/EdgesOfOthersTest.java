/**
 * The edges that the document's sentences name of lots, eggs and the wood, promises 18 to 24. A sentence stands above its
 * test.
 */
final class EdgesOfOthersTest {
    private EdgesOfOthersTest() {
    }

    /** All that is told of these worths: above and below of the worth, then above and below of each lot. */
    private static void lotsAre(int[] worths, long... due) {
        GiantHeart x = new GiantHeart();
        int n = worths.length;
        Check.due("above", Check.lots(x, 0, worths), due[0]);
        Check.due("below", Check.lots(x, 1, worths), due[1]);
        for (int i = 0; i < n; i++) {
            Check.due("above of " + i, Check.lots(x, 10 + i, worths), due[2 + 2 * i]);
            Check.due("below of " + i, Check.lots(x, 20 + i, worths), due[3 + 2 * i]);
            Check.due("empty then", x.count(3), 0);
        }
        for (int none : new int[] {-1, 2, 9, 10 + n, 19, 20 + n, 30}) {
            Check.due("NONE of " + none, Check.lots(x, none, worths), -1);
            Check.due("the tape stays", x.count(3), 20);
            x.check(0);
        }
    }

    /** 18: a find is worth 1 to 99; n 1 to 6; without a common divisor. */
    private static void lots() {
        lotsAre(new int[] {1}, 1, 1, 1, 1);
        lotsAre(new int[] {99}, 99, 1, 1, 1);
        lotsAre(new int[] {1, 1}, 1, 2, 1, 2, 1, 2);
        // 1 / (1 + 1/99): 99 of 100, and the lots 99 and 1 of 100
        lotsAre(new int[] {1, 99}, 99, 100, 99, 100, 1, 100);
        lotsAre(new int[] {99, 1}, 99, 100, 1, 100, 99, 100);
        // 1 / (1/2 + 1/3 + 1/6): 1; the lots 1/2, 1/3, 1/6
        lotsAre(new int[] {2, 3, 6}, 1, 1, 1, 2, 1, 3, 1, 6);
        lotsAre(new int[] {1, 1, 1, 1, 1, 1}, 1, 6, 1, 6, 1, 6, 1, 6, 1, 6, 1, 6, 1, 6);
        lotsAre(new int[] {99, 99, 99, 99, 99, 99}, 33, 2, 1, 6, 1, 6, 1, 6, 1, 6, 1, 6, 1, 6);
        lotsAre(new int[] {60, 30, 20, 15, 12, 10}, 20, 7, 1, 21, 2, 21, 1, 7, 4, 21, 5, 21, 2, 7);
        for (int n = 1; n <= 6; n++) {
            for (int at = 0; at < n; at++) {
                for (int worth : new int[] {0, 1, 99, 100, 101, 128, 255}) {
                    GiantHeart x = new GiantHeart();
                    int[] worths = {1, 1, 1, 1, 1, 1};
                    worths[at] = worth;
                    boolean isWorth = worth == 1 || worth == 99;
                    Check.feed(x, text(worths));
                    Check.due(worth + " at " + at + " of " + n, x.lots(n, 0) == -2, !isWorth);
                    Check.due("empty then", x.count(3), 0);
                }
            }
        }
        // what is behind the first n bytes is not looked at
        GiantHeart x = new GiantHeart();
        Check.feed(x, text(2, 0, 100, 2, 2, 2));
        Check.due("one of two", x.lots(1, 0), 2);
        Check.due("not so many", x.lots(1, 0), -1);
        x.feed(0x01010101, 0x01010101, 0, 0, 0);
        for (int n : new int[] {0, 7, -1, 21}) {
            Check.due("no such n", x.lots(n, 1), -1);
            Check.due("the tape stays", x.count(3), 20);
        }
        Check.due("six", x.lots(6, 1), 6);
    }

    private static String text(int... worths) {
        StringBuilder s = new StringBuilder();
        for (int worth : worths) {
            s.append((char) worth);
        }
        return s.toString();
    }

    private static GiantHeart eggs(int told, int... tests) {
        GiantHeart x = new GiantHeart();
        for (int i = 0; i < 8; i++) {
            if ((told >> i & 1) == 1) {
                Check.due("egg " + i, x.egg(i, true), true);
            }
        }
        for (int t = 0; t < tests.length; t++) {
            Check.due("test " + t, x.test(t, tests[t]), true);
        }
        return x;
    }

    /** 19: An EGG is told or not any more; false: no such one, it is so. 20: 8 bits a TEST. */
    private static void tellingEggs() {
        GiantHeart x = new GiantHeart();
        int told = 0;
        for (int i = 0; i < 8; i++) {
            Check.due("not told: it is so", x.egg(i, false), false);
            Check.due("told", x.egg(i, true), true);
            told |= 1 << i;
            Check.due("told eggs", x.count(8), told);
            Check.due("told: it is so", x.egg(i, true), false);
            Check.due("told eggs", x.count(8), told);
        }
        for (int i = 7; i >= 0; i--) {
            Check.due("not any more", x.egg(i, false), true);
            told &= ~(1 << i);
            Check.due("told eggs", x.count(8), told);
            Check.due("it is so", x.egg(i, false), false);
        }
        Check.due("told anew", x.egg(3, true), true);
        Check.due("told eggs", x.count(8), 8);
        for (int t = 0; t < 6; t++) {
            GiantHeart y = eggs(255);
            Check.due("all eight bits", y.test(t, 255), true);
            Check.due("alike", y.alike(0, 1 << t), 255);
            Check.due("the highest", y.test(t, 128), true);
            Check.due("7 otherwise", y.alike(7, 1 << t), 128);
            Check.due("the others alike", y.alike(0, 1 << t), 127);
            Check.due("the lowest", y.test(t, 1), true);
            Check.due("0 otherwise", y.alike(0, 1 << t), 1);
            Check.due("none", y.test(t, 0), true);
            Check.due("alike", y.alike(0, 1 << t), 255);
        }
        Check.due("6 is none", x.test(6, 0), false);
        Check.due("-1 is none", x.test(-1, 0), false);
        Check.due("256 is beyond", x.test(5, 256), false);
        Check.due("-1 is beyond", x.test(0, -1), false);
    }

    private static void apart(GiantHeart x, int many, int which) {
        Check.due("how many", x.apart(0), many);
        Check.due("which", x.apart(1), which);
    }

    /** 21: the fewest TESTS by which any two told EGGS are shown otherwise; of like ones the least bits; -2. */
    private static void toldApart() {
        apart(eggs(0), 0, 0);
        for (int i = 0; i < 8; i++) {
            apart(eggs(1 << i, 255, 1, 2, 4, 8, 16), 0, 0);
        }
        apart(eggs(3), -2, -2);
        apart(eggs(3, 0, 0, 0, 0, 0, 1), 1, 32);
        apart(eggs(3, 1), 1, 1);
        apart(eggs(3, 3, 255, 3, 0, 1, 2), 1, 16);
        apart(eggs(128 + 64, 0, 0, 0, 0, 128, 64), 1, 16);
        // eight eggs: three tests at least
        apart(eggs(255, 0xF0, 0xCC, 0xAA), 3, 7);
        apart(eggs(255, 0, 0, 0, 0xF0, 0xCC, 0xAA), 3, 56);
        apart(eggs(255, 0xF0, 0xCC, 0xAA, 0xF0, 0xCC, 0xAA), 3, 7);
        apart(eggs(255, 0xF0, 0xF0, 0xAA, 0xAA, 0xCC, 0xCC), 3, 1 + 4 + 16);
        apart(eggs(255, 0xF0, 0xCC, 0xA8), -2, -2);
        // seven eggs, each test shows one: all six
        apart(eggs(127, 1, 2, 4, 8, 16, 32), 6, 63);
        apart(eggs(255, 1, 2, 4, 8, 16, 32), -2, -2);
        apart(eggs(63, 1, 2, 4, 8, 16, 32), 5, 31);
        // two of many do as well as six
        apart(eggs(15, 1, 2, 4, 8, 10, 12), 2, 48);
        apart(eggs(15, 1, 2, 4, 10, 8, 12), 2, 40);
        // fewer TESTS ahead of less bits
        apart(eggs(3, 3, 3, 0, 0, 0, 2), 1, 32);
        apart(eggs(7, 1, 2, 2, 1, 1, 3), 2, 3);
        // an egg that is not told any more is not looked at
        GiantHeart x = eggs(7, 1);
        apart(x, -2, -2);
        x.egg(2, false);
        apart(x, 1, 1);
        x.egg(0, false);
        apart(x, 0, 0);
        Check.due("-1", x.apart(-1), -1);
        Check.due("2", x.apart(2), -1);
    }

    /** 22: EGGS that are told and show what a told EGG shows by TESTS (bits), as bits. */
    private static void alike() {
        GiantHeart x = eggs(255 - 16, 0x0F, 0x33, 0x55, 0, 255, 0x80);
        Check.due("by no TESTS", x.alike(7, 0), 239);
        Check.due("0 by 0", x.alike(0, 1), 0x0F);
        Check.due("7 by 0: 4 is not told", x.alike(7, 1), 0xE0);
        Check.due("7 by 0 and 1", x.alike(7, 3), 0xC0);
        Check.due("6 by 0 and 1", x.alike(6, 3), 0xC0);
        Check.due("6 by 0 and 2", x.alike(6, 5), 0x40);
        Check.due("by 3 and 4", x.alike(3, 24), 239);
        Check.due("by 5", x.alike(7, 32), 128);
        Check.due("by 5", x.alike(0, 32), 111);
        Check.due("by all", x.alike(0, 63), 1);
        Check.due("by all", x.alike(7, 63), 128);
        Check.due("63 is the last", x.alike(0, 64), -1);
        Check.due("0 the first", x.alike(0, -1), -1);
        Check.due("4 is not told", x.alike(4, 0), -1);
        Check.due("8 is none", x.alike(8, 0), -1);
        Check.due("-1 is none", x.alike(-1, 0), -1);
        Check.due("4 is told now", x.egg(4, true), true);
        Check.due("6 by 0 and 2", x.alike(6, 5), 0x50);
    }

    private static void rings(GiantHeart x, int many, int in, int longest) {
        Check.due("how many", x.rings(0, 0), many);
        Check.due("how many are in them", x.rings(0, 1), in);
        Check.due("the longest", x.rings(0, 2), longest);
    }

    private static void steps(GiantHeart x, int i, int steps, int into) {
        Check.due("steps of " + i, x.rings(i, 3), steps);
        Check.due("into a ring, " + i, x.rings(i, 4), into);
    }

    /** 23: owes another one (NONE: nobody). 24: how many; how many are in them; the longest; by how many steps. */
    private static void wood() {
        GiantHeart x = new GiantHeart();
        rings(x, 0, 0, 0);
        for (int i = 0; i < 12; i++) {
            steps(x, i, 0, 0);
            Check.due("not itself", x.owes(i, i), false);
            Check.due("nobody", x.owes(i, -1), true);
        }
        Check.due("11 to 0", x.owes(11, 0), true);
        rings(x, 0, 0, 0);
        steps(x, 11, 1, 0);
        Check.due("0 to 11", x.owes(0, 11), true);
        rings(x, 1, 2, 2);
        steps(x, 11, 0, 1);
        steps(x, 0, 0, 1);
        steps(x, 1, 0, 0);
        x.owes(1, 11);
        steps(x, 1, 1, 1);
        // the first to the last: one ring of twelve
        GiantHeart y = new GiantHeart();
        for (int i = 11; i >= 0; i--) {
            Check.due("on", y.owes(i, i == 0 ? 11 : i - 1), true);
        }
        rings(y, 1, 12, 12);
        for (int i = 0; i < 12; i++) {
            steps(y, i, 0, 1);
        }
        // eleven steps to one that owes nobody, ten to a ring of two
        y.owes(0, -1);
        rings(y, 0, 0, 0);
        steps(y, 11, 11, 0);
        steps(y, 0, 0, 0);
        y.owes(0, 1);
        rings(y, 1, 2, 2);
        steps(y, 11, 10, 1);
        steps(y, 2, 1, 1);
        steps(y, 1, 0, 1);
        steps(y, 0, 0, 1);
        // six rings of two; four of three; five and seven
        GiantHeart z = new GiantHeart();
        for (int i = 0; i < 12; i++) {
            z.owes(i, i ^ 1);
        }
        rings(z, 6, 12, 2);
        for (int i = 0; i < 12; i++) {
            z.owes(i, i % 3 == 2 ? i - 2 : i + 1);
        }
        rings(z, 4, 12, 3);
        for (int i = 0; i < 12; i++) {
            z.owes(i, i == 4 ? 0 : i == 11 ? 5 : i + 1);
        }
        rings(z, 2, 12, 7);
        z.owes(6, -1);
        rings(z, 1, 5, 5);
        steps(z, 7, 6, 0);
        steps(z, 5, 1, 0);
        steps(z, 6, 0, 0);
        z.owes(6, 4);
        rings(z, 1, 5, 5);
        steps(z, 7, 7, 1);
        steps(z, 6, 1, 1);
        Check.due("3 and 4 look at i", z.rings(12, 3) + z.rings(-1, 4), -2);
        Check.due("0 does not", z.rings(12, 0), 1);
        Check.due("5 is none", z.rings(0, 5), -1);
        Check.due("-1 is none", z.rings(0, -1), -1);
    }

    public static void main(String[] args) {
        lots();
        tellingEggs();
        toldApart();
        alike();
        wood();
        Check.end("EdgesOfOthersTest");
    }
}
