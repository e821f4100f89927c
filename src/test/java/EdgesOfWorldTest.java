import java.util.List;

/**
 * The edges that the document's sentences name, promises 1 to 7 and 25 to 30: the last that is taken on each side and
 * what it does then (the first ones beyond are refused, see RefusedTest), the empty and the full. A sentence stands
 * above its test.
 */
final class EdgesOfWorldTest {
    private EdgesOfWorldTest() {
    }

    /** 1: No WAYS, PLACES, KEYS, LAW; THE SEED 1. */
    private static void aNewObject() {
        GiantHeart x = new GiantHeart();
        for (int p = 0; p < 8; p++) {
            for (int what = 0; what < 7; what++) {
                Check.due("no place " + p, x.placeIs(p, what), -1);
            }
            Check.due("key " + p + " is nowhere at first", x.count(10 + p), -2);
        }
        for (int way = 0; way < 16; way++) {
            Check.due("no way", x.count(100 + way), 0);
        }
        Check.due("no told places", x.count(0), 0);
        Check.due("THE HEART is in PLACE 0 at first", x.count(1), 0);
        Check.due("no law at first", x.count(2), 0);
        Check.due("an empty tape", x.count(3), 0);
        Check.due("THE SEED is 1 at first", x.count(4), 1);
        Check.due("THE NIGHT is 0 at first", x.count(5), 0);
        Check.due("nothing DUSTED", x.count(6), 8);
        Check.due("nothing SAID", x.count(7), 8);
        Check.due("no told eggs", x.count(8), 0);
        Check.due("the first feed has 20", x.feed(0, 0, 0, 0, 0), 20);
        Check.due("nothing was KEPT", x.undo(), false);
        Check.due("NONE", GiantHeart.NONE, -1);
        GiantHeart y = new GiantHeart();
        y.place(0, 0, -1, -1);
        y.place(1, 0, -1, -1);
        Check.due("no LOCK on what is told without", y.placeIs(0, 2), -2);
        Check.due("no KEY in it", y.placeIs(0, 5), 0);
        Check.due("without a LAW he does not move it, says the PLACE where it is", y.night(1), 0);
        Check.due("X is 25173 * 1 + 13849", y.count(4), 39022);
        GiantHeart z = new GiantHeart();
        for (int i = 0; i < 12; i++) {
            Check.due("beasts of the wood owe nobody", z.rings(i, 3) + z.rings(i, 4), 0);
        }
        for (int i = 0; i < 8; i++) {
            z.egg(i, true);
        }
        Check.due("tests show nothing of any", z.alike(3, 63), 255);
    }

    /** 2, and: ISLANDS 0 to 3; WAYS between two of them: DAYS (1 to 30; 0: none; none at first). */
    private static void ways() {
        GiantHeart x = new GiantHeart();
        int days = 0;
        for (int a = 0; a < 4; a++) {
            for (int b = 0; b < 4; b++) {
                if (a != b) {
                    days++;
                    Check.due("way " + a + " " + b, x.way(a, b, days), true);
                    Check.due("it has its DAYS", x.count(100 + 4 * a + b), days);
                    Check.due("back, too", x.count(100 + 4 * b + a), days);
                }
            }
        }
        for (int a = 0; a < 4; a++) {
            Check.due("none from an ISLAND to itself", x.count(100 + 5 * a), 0);
        }
        Check.due("the others stay", x.count(101), 4);
        Check.due("30 DAYS", x.way(3, 2, 30), true);
        Check.due("30", x.count(100 + 11), 30);
        Check.due("31 DAYS", x.way(3, 2, 31), false);
        Check.due("still 30", x.count(100 + 14), 30);
        Check.due("1 DAY", x.way(2, 3, 1), true);
        Check.due("1", x.count(100 + 14), 1);
        Check.due("0 DAYS: none", x.way(3, 2, 0), true);
        Check.due("none there", x.count(100 + 11), 0);
        Check.due("none back", x.count(100 + 14), 0);
        Check.due("none where none is", x.way(3, 2, 0), true);
        Check.due("he can't go there", Check.tale(x, "g2,g3", 0), 1);
        x.way(2, 3, 30);
        Check.due("he can now", Check.tale(x, "g2,g3,g2", 0), 3);
        Check.due("30 DAYS each time", Check.tale(x, "g2,g3,g2", 1), 60 + x.count(102));
    }

    /** 3, and: PLACES 0 to 7; on an ISLAND, or within another PLACE with a lower number; a LOCK (a KEY 0 to 7, or none). */
    private static void places() {
        GiantHeart x = new GiantHeart();
        Check.due("PLACE 7, ISLAND 3, LOCK 7", x.place(7, 3, -1, 7), true);
        Check.due("PLACE 0, ISLAND 0, LOCK 0", x.place(0, 0, -1, 0), true);
        Check.due("told", x.count(0), 129);
        long[] seven = {3, -2, 7, 0, -2, 0, 0};
        long[] zero = {0, -2, 0, 0, -2, 0, 0};
        for (int what = 0; what < 7; what++) {
            Check.due("placeIs 7 " + what, x.placeIs(7, what), seven[what]);
            Check.due("placeIs 0 " + what, x.placeIs(0, what), zero[what]);
        }
        Check.due("no LOCK", x.place(0, 2, -1, -1), true);
        Check.due("no LOCK", x.placeIs(0, 2), -2);
        Check.due("its new ISLAND", x.placeIs(0, 0), 2);
        for (int island : new int[] {Integer.MIN_VALUE, -1, 4, Integer.MAX_VALUE, 3}) {
            Check.due("the ISLAND is not looked at", x.place(1, island, 0, -1), true);
            Check.due("the one of the other", x.placeIs(1, 0), 2);
        }
        Check.due("not within itself", x.place(1, 0, 1, -1), false);
        Check.due("within the next lower one", x.placeIs(1, 1), 0);
        Check.due("not within a higher one", x.place(1, 0, 7, -1), false);
        Check.due("not within one that is not told", x.place(7, 0, 6, -1), false);
        Check.due("7 is on its ISLAND still", x.placeIs(7, 1), -2);
        x.place(6, 1, -1, -1);
        Check.due("7 within 6", x.place(7, 0, 6, -1), true);
        Check.due("7 within 6", x.placeIs(7, 1), 6);
        Check.due("on the ISLAND on which that is", x.placeIs(7, 0), 1);
        Check.due("out of it again", x.place(7, 3, -1, -1), true);
        Check.due("within none", x.placeIs(7, 1), -2);
        Check.due("no level", x.placeIs(7, 6), 0);
        GiantHeart y = new GiantHeart();
        for (int p = 0; p < 8; p++) {
            Check.due("each within the one before", y.place(p, 3, p - 1, p), true);
            Check.due("levels", y.placeIs(p, 6), p);
            Check.due("the ISLAND of the outermost", y.placeIs(p, 0), 3);
        }
        Check.due("all are told", y.count(0), 255);
        y.place(4, 1, -1, -1);
        for (int p = 0; p < 8; p++) {
            Check.due("4 taken out with what is in it", y.placeIs(p, 0), p < 4 ? 3 : 1);
            Check.due("levels", y.placeIs(p, 6), p < 4 ? p : p - 4);
        }
    }

    /** 3: A PLACE (in place of the one before; not WET, no FLIGHT). 4: WET or not; FLIGHT to one with a higher number. */
    private static void more() {
        GiantHeart x = new GiantHeart();
        for (int p : new int[] {0, 1, 6, 7}) {
            x.place(p, 0, -1, -1);
            Check.due("not WET at first", x.placeIs(p, 3), 0);
            Check.due("no FLIGHT at first", x.placeIs(p, 4), -2);
        }
        Check.due("from 0 to 7", x.more(0, true, 7), true);
        Check.due("WET", x.placeIs(0, 3), 1);
        Check.due("FLIGHT", x.placeIs(0, 4), 7);
        Check.due("to the next higher one", x.more(0, false, 1), true);
        Check.due("not WET any more", x.placeIs(0, 3), 0);
        Check.due("FLIGHT", x.placeIs(0, 4), 1);
        Check.due("from 6 to 7", x.more(6, true, 7), true);
        Check.due("FLIGHT", x.placeIs(6, 4), 7);
        Check.due("7 has none higher", x.more(7, true, -1), true);
        Check.due("WET", x.placeIs(7, 3), 1);
        Check.due("NONE: none", x.placeIs(7, 4), -2);
        Check.due("7 to itself", x.more(7, false, 7), false);
        Check.due("it stays WET", x.placeIs(7, 3), 1);
        Check.due("no FLIGHT any more", x.more(6, true, -1), true);
        Check.due("none", x.placeIs(6, 4), -2);
        x.more(6, true, 7);
        x.key(5, 6);
        x.heart(6);
        Check.due("in place of the one before", x.place(6, 2, -1, 4), true);
        long[] due = {2, -2, 4, 0, -2, 32, 0};
        for (int what = 0; what < 7; what++) {
            Check.due("6 told anew " + what, x.placeIs(6, what), due[what]);
        }
        Check.due("the heart stays in it", x.count(1), 6);
        Check.due("7 stays WET", x.placeIs(7, 3), 1);
        Check.due("7 told anew", x.place(7, 0, -1, -1), true);
        Check.due("7 is not WET", x.placeIs(7, 3), 0);
        Check.due("a FLIGHT to it stays", x.placeIs(0, 4), 1);
    }

    /** 5: Where a KEY is: a told PLACE, 8 + a BEAST, or nowhere (NONE). 6: THE HEART is in a told PLACE. */
    private static void keysAndHeart() {
        GiantHeart x = new GiantHeart();
        x.place(0, 0, -1, -1);
        x.place(7, 0, -1, -1);
        for (int where : new int[] {0, 7, 8, 9, 10}) {
            for (int k : new int[] {0, 7}) {
                Check.due("key " + k + " " + where, x.key(k, where), true);
                Check.due("it is there", x.count(10 + k), where);
            }
        }
        Check.due("nowhere", x.key(7, -1), true);
        Check.due("nowhere", x.count(17), -2);
        Check.due("the other one stays", x.count(10), 10);
        for (int k = 0; k < 8; k++) {
            x.key(k, 7);
        }
        Check.due("all in one", x.placeIs(7, 5), 255);
        Check.due("none in the other", x.placeIs(0, 5), 0);
        Check.due("not in 1", x.key(3, 1), false);
        Check.due("all in one", x.placeIs(7, 5), 255);
        Check.due("heart(7)", x.heart(7), true);
        Check.due("7", x.count(1), 7);
        Check.due("heart(6), not told", x.heart(6), false);
        Check.due("7", x.count(1), 7);
        Check.due("heart(0)", x.heart(0), true);
        Check.due("0", x.count(1), 0);
    }

    /** 7: Twenty bytes come behind the tape, the highest of each int first: how many; NONE if more than 260. */
    private static void feeding() {
        GiantHeart x = new GiantHeart();
        // the text k1,k1 .. over the ends of the ints, from byte 0 of the first to byte 3 of the last
        Check.due("20", x.feed(0x6B312C6B, 0x322C6B31, 0x2C6B302C, 0x6B322C6B, 0x312C6B39), 20);
        Check.due("9 is beyond, at byte 19", x.tale(20, 0), -3019);
        Check.due("empty then", x.count(3), 0);
        for (int i = 1; i <= 13; i++) {
            Check.due("up to 260", x.feed(0, 0, 0, 0, i == 13 ? 1 : 0), 20 * i);
        }
        Check.due("a fourteenth", x.feed(7, 7, 7, 7, 7), -1);
        Check.due("260 stay", x.count(3), 260);
        Check.due("the first bytes are as they were", x.check(8), -1);
        Check.due("room again", x.feed(0, 0, 0, 0, 0), 20);
        GiantHeart y = new GiantHeart();
        y.feed(0, 0, 0, 0, 0);
        y.feed(0, 0, 5, 9, 9);
        Check.due("behind the tape", y.check(8), 7);
        y.feed(-1, 0, 0, 0, 0);
        Check.due("a byte of 255 is 255", y.lots(1, 0), -2);
        y.feed(0x63630000, 0, 0, 0, 0);
        Check.due("two of 99", y.lots(2, 0), 99);
    }

    /** 25: the KEYS in it are those in this PLACE alone; its levels. */
    private static void placeIs() {
        GiantHeart x = new GiantHeart();
        x.place(0, 1, -1, 7);
        x.place(3, 0, 0, 0);
        x.place(7, 0, 3, -1);
        x.key(0, 0);
        x.key(7, 0);
        x.key(4, 3);
        x.key(2, 8);
        long[][] due = {{1, -2, 7, 0, -2, 129, 0}, {1, 0, 0, 0, -2, 16, 1}, {1, 3, -2, 0, -2, 0, 2}};
        for (int what = 0; what < 7; what++) {
            Check.due("placeIs 0 " + what, x.placeIs(0, what), due[0][what]);
            Check.due("placeIs 3 " + what, x.placeIs(3, what), due[1][what]);
            Check.due("placeIs 7 " + what, x.placeIs(7, what), due[2][what]);
        }
        for (int[] no : new int[][] {{0, 7}, {0, -1}, {1, 0}, {6, 6}, {8, 0}, {-1, 0}}) {
            Check.due("NONE for others", x.placeIs(no[0], no[1]), -1);
        }
    }

    /** 26: THE SEED (0 to 65535; X, too). X = (25173 X + 13849) modulo 65536: X modulo 10. */
    private static void seeds() {
        int[][] all = {{0, 13849}, {1, 39022}, {65535, 54212}, {65534, 29039}, {32768, 46617}};
        for (int[] one : all) {
            GiantHeart x = new GiantHeart();
            for (int p = 0; p < 8; p++) {
                x.place(p, 0, -1, -1);
            }
            Check.law(x, "lr(r<8);l[r-8](1=1)");
            Check.due("seed " + one[0], x.seed(one[0]), true);
            Check.due("X, too", x.count(4), one[0]);
            Check.due("the DRAW of " + one[0], x.night(8), one[1] % 10 < 8 ? one[1] % 10 : one[1] % 10 - 8);
            Check.due("X behind " + one[0], x.count(4), one[1]);
        }
        GiantHeart x = new GiantHeart();
        x.place(0, 0, -1, -1);
        int due = 1;
        for (int i = 0; i < 50; i++) {
            due = (int) ((25173L * due + 13849) % 65536);
            x.night(8);
            Check.due("X of night " + i, x.count(4), due);
        }
        Check.due("65536", x.seed(65536), false);
        Check.due("-1", x.seed(-1), false);
        Check.due("X stays", x.count(4), due);
    }

    private static void isShown(String name, GiantHeart x, List<Long> due) {
        List<Long> shown = Scene.world(x);
        for (int i = 0; i < due.size(); i++) {
            Check.due(name + " " + i, shown.get(i), due.get(i));
        }
    }

    /** Each of what is KEPT is told otherwise. */
    private static void tellOtherwise(GiantHeart x) {
        x.way(0, 1, 9);
        x.way(2, 3, 1);
        x.place(0, 3, -1, 6);
        x.place(1, 1, -1, 1);
        x.place(2, 2, -1, -1);
        x.place(3, 2, -1, -1);
        x.place(4, 2, 0, -1);
        x.place(5, 0, 2, -1);
        x.place(7, 2, 3, 0);
        x.more(0, false, 7);
        x.more(7, true, -1);
        x.key(0, -1);
        x.key(1, 3);
        x.key(6, 10);
        x.heart(7);
        x.night(1);
        x.night(0);
        x.seed(99);
    }

    /** 27, 28: ISLANDS, PLACES, KEYS, THE HEART, THE NIGHT, DUSTED, SAID, X; UNDONE: as they were KEPT last. */
    private static void keptAndUndone() {
        GiantHeart x = Scene.withoutKept();
        List<Long> first = Scene.world(x);
        Check.due("nothing was KEPT", x.undo(), false);
        Check.due("how many PLACES are told", x.keep(), 6);
        tellOtherwise(x);
        Check.due("undo", x.undo(), true);
        isShown("as it was kept", x, first);
        Check.due("undo once more", x.undo(), true);
        isShown("as it was kept", x, first);
        GiantHeart y = Scene.withoutKept();
        y.keep();
        tellOtherwise(y);
        List<Long> second = Scene.world(y);
        Check.due("in place of the one before", y.keep(), 8);
        y.place(6, 0, -1, -1);
        y.seed(3);
        Check.due("undo", y.undo(), true);
        isShown("as it was kept last", y, second);
    }

    /** 27, 28: nothing told is kept, too, so a PLACE can be not told again; what is not named is not kept. */
    private static void keptEmpty() {
        GiantHeart x = new GiantHeart();
        List<Long> empty = Scene.world(x);
        Check.due("no PLACES", x.keep(), 0);
        for (int p = 0; p < 8; p++) {
            x.place(p, 0, -1, 0);
        }
        tellOtherwise(x);
        Check.due("all are told", x.count(0), 255);
        x.egg(2, true);
        x.owes(2, 3);
        x.owes(3, 2);
        x.test(4, 4);
        Check.law(x, "m1(1=1);m2(1=1);l3(1=1)");
        x.feed(1, 2, 3, 4, 5);
        Check.due("undo", x.undo(), true);
        isShown("empty again", x, empty);
        Check.due("THE HEART's PLACE is not told", x.night(8), -1);
        Check.due("THE LAW stays", x.count(2), 3);
        Check.due("the tape stays", x.count(3), 20);
        Check.due("eggs stay", x.count(8), 4);
        Check.due("the wood stays", x.rings(0, 1), 2);
        x.egg(3, true);
        Check.due("tests stay", x.alike(2, 16), 4);
        Check.due("what is kept is told anew", x.place(4, 0, -1, -1), true);
        Check.due("one", x.keep(), 1);
        GiantHeart y = new GiantHeart();
        for (int p = 0; p < 8; p++) {
            y.place(p, 0, -1, -1);
        }
        Check.due("eight", y.keep(), 8);
    }

    private static int checked(GiantHeart x, int n, int... numbers) {
        x.check(0);
        x.feed(numbers[0], numbers[1], numbers[2], numbers[3], numbers[4]);
        x.feed(numbers[5], numbers[6], numbers[7], 77, 77);
        return x.check(n);
    }

    /** 29: CHECK by the first n numbers (0 to 8; four bytes each; of PLACES that are not told 0). */
    private static void checking() {
        GiantHeart x = new GiantHeart();
        int[] right = {1, 2, 3, 0, 0, 3, 0, 3};
        x.place(0, 1, -1, -1);
        x.place(1, 2, -1, -1);
        x.place(2, 3, -1, -1);
        x.place(3, 0, -1, -1);
        x.place(5, 0, 2, -1);
        x.place(7, 0, 5, -1);
        for (int n = 0; n <= 8; n++) {
            Check.due("right, " + n, checked(x, n, right), -1);
            Check.due("empty then", x.count(3), 0);
        }
        for (int p = 0; p < 8; p++) {
            int[] other = right.clone();
            other[p]++;
            Check.due("the first that is not so", checked(x, 8, other), p);
            Check.due("it is the last of these", checked(x, p + 1, other), p);
            Check.due("it is not among these", checked(x, p, other), -1);
            other[7] = 9;
            Check.due("the first one counts", checked(x, 8, other), p);
            other = right.clone();
            other[p] |= 1 << 31;
            Check.due("the highest bit", checked(x, 8, other), p);
            other = right.clone();
            other[p] += 256;
            Check.due("the second byte from below", checked(x, 8, other), p);
            other[p] += 65536 - 256;
            Check.due("the third", checked(x, 8, other), p);
        }
        x.feed(1, 2, 3, 0, 0);
        Check.due("five numbers", x.check(6), -2);
        Check.due("the tape stays", x.count(3), 20);
        Check.due("five numbers", x.check(5), -1);
        Check.due("the tape is empty", x.count(3), 0);
        Check.due("no number of an empty tape", x.check(0), -1);
        Check.due("one of an empty tape", x.check(1), -2);
        GiantHeart y = new GiantHeart();
        Check.due("no PLACES: all 0", checked(y, 8, 0, 0, 0, 0, 0, 0, 0, 0), -1);
        Check.due("no PLACES: all 0", checked(y, 8, 0, 0, 0, 0, 0, 0, 0, -1), 7);
    }

    /** 30: each what, and NONE for others. */
    private static void counting() {
        GiantHeart x = Scene.full();
        // X is 25173 * 4711 + 13849 modulo 65536; its DRAW is 8, so the heart stayed in 2, and 2 was said
        long[] due = {119, 5, 2, 40, 49228, 1, 2, 2, 63};
        for (int what = 0; what < 9; what++) {
            Check.due("count " + what, x.count(what), due[what]);
        }
        long[] keys = {0, 6, 8, 9, 10, -2, -2, 0};
        for (int k = 0; k < 8; k++) {
            Check.due("key " + k, x.count(10 + k), keys[k]);
        }
        long[] ways = {0, 3, 0, 30, 3, 0, 4, 7, 0, 4, 0, 0, 30, 7, 0, 0};
        for (int way = 0; way < 16; way++) {
            Check.due("way " + way, x.count(100 + way), ways[way]);
        }
        for (int none : new int[] {-2, -1, 9, 18, 99, 116, 120}) {
            Check.due("NONE for others: " + none, x.count(none), -1);
        }
    }

    public static void main(String[] args) {
        aNewObject();
        ways();
        places();
        more();
        keysAndHeart();
        feeding();
        placeIs();
        seeds();
        keptAndUndone();
        keptEmpty();
        checking();
        counting();
        Check.end("EdgesOfWorldTest");
    }
}
