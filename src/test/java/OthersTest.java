/** Promises 18 to 24: hide and seek by lot, eggs and tests, the beasts of the wood. */
final class OthersTest {
    private OthersTest() {
    }

    private static void lots() {
        GiantHeart x = new GiantHeart();
        // 1 / (1/1 + 1/2 + 1/3) = 6/11; the lots are 6/11, 3/11, 2/11
        long[][] due = {{0, 6}, {1, 11}, {10, 6}, {20, 11}, {11, 3}, {21, 11}, {12, 2}, {22, 11}};
        for (long[] one : due) {
            Check.due("lots 1 2 3: " + one[0], Check.lots(x, (int) one[0], 1, 2, 3), one[1]);
        }
        Check.due("13 of three", Check.lots(x, 13, 1, 2, 3), -1);
        Check.due("the tape stays", x.count(3), 20);
        x.check(0);
        Check.due("23 of three", Check.lots(x, 23, 1, 2, 3), -1);
        x.check(0);
        for (int what : new int[] {-1, 2, 9, 16, 19, 26, 30}) {
            Check.due("lots no " + what, Check.lots(x, what, 1, 1, 1, 1, 1, 1), -1);
            x.check(0);
        }
        Check.due("one place", Check.lots(x, 0, 99), 99);
        Check.due("one place", Check.lots(x, 1, 99), 1);
        Check.due("one place", Check.lots(x, 10, 99), 1);
        Check.due("one place", Check.lots(x, 20, 99), 1);
        Check.due("like ones", Check.lots(x, 0, 98, 98, 98, 98, 98, 98), 49);
        Check.due("like ones", Check.lots(x, 1, 98, 98, 98, 98, 98, 98), 3);
        Check.due("like ones", Check.lots(x, 15, 98, 98, 98, 98, 98, 98), 1);
        Check.due("like ones", Check.lots(x, 25, 98, 98, 98, 98, 98, 98), 6);
        // 99 97 95 94 91 89 have no common divisors
        long all = 99L * 97 * 95 * 94 * 91 * 89;
        long sum = all / 99 + all / 97 + all / 95 + all / 94 + all / 91 + all / 89;
        Check.due("great ones", Check.lots(x, 0, 99, 97, 95, 94, 91, 89), all);
        Check.due("great ones", Check.lots(x, 1, 99, 97, 95, 94, 91, 89), sum);
        Check.due("no such worth", Check.lots(x, 0, 1, 0), -2);
        Check.due("empty then", x.count(3), 0);
        Check.due("no such worth", Check.lots(x, 0, 100), -2);
        Check.due("no such worth", Check.lots(x, 0, 5, 255), -2);
        Check.due("NONE ahead of it", Check.lots(x, 2, 0), -1);
        x.check(0);
        Check.due("not so many", x.lots(1, 0), -1);
        x.feed(0x01010101, 0x01010101, 0, 0, 0);
        for (int n : new int[] {0, -1, 7}) {
            Check.due("no such n", x.lots(n, 0), -1);
        }
        Check.due("the tape stays", x.count(3), 20);
        Check.due("what is behind n is not looked at", x.lots(6, 1), 6);
    }

    private static void eggs() {
        GiantHeart x = new GiantHeart();
        Check.due("egg(-1)", x.egg(-1, true), false);
        Check.due("egg(8)", x.egg(8, true), false);
        Check.due("not told", x.egg(2, false), false);
        Check.due("told", x.egg(2, true), true);
        Check.due("it is so", x.egg(2, true), false);
        Check.due("told ones", x.count(8), 4);
        Check.due("one is apart", x.apart(0), 0);
        Check.due("one is apart", x.apart(1), 0);
        Check.due("test(-1)", x.test(-1, 0), false);
        Check.due("test(6)", x.test(6, 0), false);
        Check.due("bits -1", x.test(0, -1), false);
        Check.due("bits 256", x.test(0, 256), false);
        Check.due("apart(-1)", x.apart(-1), -1);
        Check.due("apart(2)", x.apart(2), -1);
        x.egg(5, true);
        Check.due("two alike", x.apart(0), -2);
        Check.due("two alike", x.apart(1), -2);
        Check.due("test(5)", x.test(5, 32), true);
        Check.due("test(3)", x.test(3, 4 + 255 - 32 - 4), true);
        Check.due("one of two does", x.apart(0), 1);
        Check.due("the least bits", x.apart(1), 8);
        x.egg(0, true);
        x.egg(7, true);
        x.test(5, 1 << 0 | 1 << 2);
        x.test(4, 1 << 0 | 1 << 5);
        x.test(3, 1 << 0);
        x.test(0, 1 << 2);
        Check.due("two tests", x.apart(0), 2);
        // 3 and 0 leave 5 and 7 alike; 4 and 0: 0 1, 2 .. so: 0 by 4, 2 by 0, 5 by 4 too
        Check.due("the least bits of two", x.apart(1), 48);
        x.test(5, 0);
        Check.due("three tests", x.apart(0), 3);
        Check.due("0, 3, 4", x.apart(1), 1 + 8 + 16);
        Check.due("alike(0, 16)", x.alike(0, 16), 1 << 0 | 1 << 5);
        Check.due("alike(2, 16)", x.alike(2, 16), 1 << 2 | 1 << 7);
        Check.due("alike(2, 17)", x.alike(2, 17), 1 << 2);
        Check.due("by no test all are", x.alike(2, 0), 1 << 0 | 1 << 2 | 1 << 5 | 1 << 7);
        Check.due("one that is not told", x.alike(1, 0), -1);
        for (int[] no : new int[][] {{-1, 0}, {8, 0}, {2, 64}, {2, -1}}) {
            Check.due("alike none", x.alike(no[0], no[1]), -1);
        }
        x.egg(5, false);
        Check.due("not any more", x.count(8), 1 << 0 | 1 << 2 | 1 << 7);
        Check.due("not alike any more", x.alike(0, 16), 1);
        Check.due("two do then", x.apart(0), 2);
        Check.due("0 and 3", x.apart(1), 9);
    }

    private static void ringsAre(GiantHeart x, long... due) {
        for (int what = 0; what < due.length; what++) {
            Check.due("rings(-1, " + what + ")", x.rings(-1, what), due[what]);
        }
    }

    private static void wood() {
        GiantHeart x = new GiantHeart();
        ringsAre(x, 0, 0, 0);
        for (int[] no : new int[][] {{-1, 0}, {12, 0}, {0, 12}, {0, -2}, {3, 3}}) {
            Check.due("no such debt", x.owes(no[0], no[1]), false);
        }
        for (int i = 0; i < 11; i++) {
            Check.due("owes", x.owes(i, i + 1), true);
        }
        ringsAre(x, 0, 0, 0);
        for (int i = 0; i < 12; i++) {
            Check.due("steps", x.rings(i, 3), 11 - i);
            Check.due("into none", x.rings(i, 4), 0);
        }
        x.owes(11, 0);
        ringsAre(x, 1, 12, 12);
        Check.due("it is in it", x.rings(5, 3), 0);
        Check.due("it is in it", x.rings(5, 4), 1);
        x.owes(11, 9);
        x.owes(3, 1);
        // rings 9 10 11 and 1 2 3; 0 into the second, 4 to 8 into the first
        ringsAre(x, 2, 6, 3);
        Check.due("steps of 0", x.rings(0, 3), 1);
        Check.due("steps of 4", x.rings(4, 3), 5);
        Check.due("into one", x.rings(4, 4), 1);
        Check.due("nobody", x.owes(10, -1), true);
        ringsAre(x, 1, 3, 3);
        Check.due("to one that owes nobody", x.rings(11, 3), 2);
        Check.due("into none", x.rings(11, 4), 0);
        Check.due("none itself", x.rings(10, 3), 0);
        x.owes(5, 4);
        ringsAre(x, 2, 5, 3);
        for (int[] no : new int[][] {{0, -1}, {0, 5}, {-1, 3}, {12, 3}, {-1, 4}, {12, 4}}) {
            Check.due("rings none", x.rings(no[0], no[1]), -1);
        }
        Check.due("i is not looked at", x.rings(99, 2), 3);
    }

    public static void main(String[] args) {
        lots();
        eggs();
        wood();
        Check.end("OthersTest");
    }
}
