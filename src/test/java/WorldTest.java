/** Promises 1 to 7 and 25 to 30: what the world is told, the tape, what is kept and undone. */
final class WorldTest {
    private WorldTest() {
    }

    private static void newObject() {
        GiantHeart x = new GiantHeart();
        long[] due = {0, 0, 0, 0, 1, 0, 8, 8, 0};
        for (int what = 0; what < due.length; what++) {
            Check.due("new count(" + what + ")", x.count(what), due[what]);
        }
        for (int k = 0; k < 8; k++) {
            Check.due("new count(10 + " + k + ")", x.count(10 + k), -2);
        }
        for (int way = 0; way < 16; way++) {
            Check.due("new count(100 + " + way + ")", x.count(100 + way), 0);
        }
        for (int none : new int[] {-1, 9, 18, 99, 116, Integer.MIN_VALUE, Integer.MAX_VALUE}) {
            Check.due("new count(" + none + ")", x.count(none), -1);
        }
        Check.due("new undo()", x.undo(), false);
        Check.due("NONE", GiantHeart.NONE, -1);
    }

    private static void ways() {
        GiantHeart x = new GiantHeart();
        Check.due("way(0, 3, 30)", x.way(0, 3, 30), true);
        Check.due("there", x.count(100 + 3), 30);
        Check.due("and back", x.count(100 + 12), 30);
        Check.due("way(3, 0, 1)", x.way(3, 0, 1), true);
        Check.due("shorter now", x.count(100 + 3), 1);
        Check.due("way(1, 2, 0)", x.way(1, 2, 0), true);
        for (int[] no : new int[][] {{0, 3, 31}, {0, 3, -1}, {4, 0, 2}, {0, 4, 2}, {-1, 0, 2}, {0, -1, 2}, {2, 2, 2}}) {
            Check.due("no such way", x.way(no[0], no[1], no[2]), false);
        }
        Check.due("as it was", x.count(100 + 3), 1);
        Check.due("none any more", x.way(0, 3, 0), true);
        Check.due("none there", x.count(100 + 12), 0);
    }

    private static void places() {
        GiantHeart x = new GiantHeart();
        Check.due("within one that is not told", x.place(3, 0, 2, -1), false);
        Check.due("place(2)", x.place(2, 3, -1, 7), true);
        Check.due("place(4) within 2", x.place(4, 99, 2, -1), true);
        Check.due("place(7) within 4", x.place(7, -5, 4, 0), true);
        for (int[] no : new int[][] {{-1, 0, -1, -1}, {8, 0, -1, -1}, {0, -1, -1, -1}, {0, 4, -1, -1}, {0, 0, -2, -1},
            {3, 0, 8, -1}, {2, 0, 2, -1}, {2, 0, 4, -1}, {3, 0, 2, 8}, {3, 0, 2, -2}}) {
            Check.due("no such place", x.place(no[0], no[1], no[2], no[3]), false);
        }
        Check.due("told ones", x.count(0), 1 << 2 | 1 << 4 | 1 << 7);
        long[] of7 = {3, 4, 0, 0, -2, 0, 2};
        long[] of2 = {3, -2, 7, 0, -2, 0, 0};
        for (int what = 0; what < 7; what++) {
            Check.due("placeIs(7, " + what + ")", x.placeIs(7, what), of7[what]);
            Check.due("placeIs(2, " + what + ")", x.placeIs(2, what), of2[what]);
        }
        Check.due("no lock", x.placeIs(4, 2), -2);
        for (int[] no : new int[][] {{0, 0}, {-1, 0}, {8, 0}, {2, -1}, {2, 7}}) {
            Check.due("placeIs none", x.placeIs(no[0], no[1]), -1);
        }
        GiantHeart y = new GiantHeart();
        for (int p = 0; p < 8; p++) {
            y.place(p, 3, p - 1, -1);
        }
        for (int p = 0; p < 8; p++) {
            Check.due("on the island of the outermost", y.placeIs(p, 0), 3);
            Check.due("levels", y.placeIs(p, 6), p);
        }
        Check.due("the outer one elsewhere", x.place(2, 1, -1, -1), true);
        Check.due("the inner one goes along", x.placeIs(7, 0), 1);
    }

    private static void more() {
        GiantHeart x = new GiantHeart();
        x.place(1, 0, -1, -1);
        x.place(5, 0, -1, -1);
        Check.due("more(1, wet, 5)", x.more(1, true, 5), true);
        Check.due("wet", x.placeIs(1, 3), 1);
        Check.due("flight", x.placeIs(1, 4), 5);
        Check.due("not told", x.more(0, true, -1), false);
        Check.due("no such", x.more(8, true, -1), false);
        Check.due("no such", x.more(-1, true, -1), false);
        Check.due("to one that is not told", x.more(1, false, 6), false);
        Check.due("to no such", x.more(1, false, 8), false);
        Check.due("to no such", x.more(1, false, -2), false);
        Check.due("to itself", x.more(5, false, 5), false);
        Check.due("to a lower one", x.more(5, false, 1), false);
        Check.due("still wet", x.placeIs(1, 3), 1);
        Check.due("dry", x.more(1, false, -1), true);
        Check.due("dry now", x.placeIs(1, 3), 0);
        Check.due("no flight now", x.placeIs(1, 4), -2);
        x.more(1, true, 5);
        x.place(1, 2, -1, 3);
        Check.due("a new one is not wet", x.placeIs(1, 3), 0);
        Check.due("a new one has no flight", x.placeIs(1, 4), -2);
    }

    private static void keysAndHeart() {
        GiantHeart x = new GiantHeart();
        x.place(3, 0, -1, -1);
        Check.due("key(0, 3)", x.key(0, 3), true);
        Check.due("key(7, 3)", x.key(7, 3), true);
        Check.due("both in it", x.placeIs(3, 5), 129);
        Check.due("key(7, 10)", x.key(7, 10), true);
        Check.due("in the salmon", x.count(17), 10);
        Check.due("one in it", x.placeIs(3, 5), 1);
        for (int[] no : new int[][] {{-1, 3}, {8, 3}, {0, 2}, {0, 11}, {0, -2}}) {
            Check.due("no such key", x.key(no[0], no[1]), false);
        }
        Check.due("as it was", x.count(10), 3);
        Check.due("nowhere", x.key(0, -1), true);
        Check.due("nowhere now", x.count(10), -2);
        Check.due("heart(2)", x.heart(2), false);
        Check.due("heart(-1)", x.heart(-1), false);
        Check.due("heart(8)", x.heart(8), false);
        Check.due("heart at first", x.count(1), 0);
        Check.due("heart(3)", x.heart(3), true);
        Check.due("heart there", x.count(1), 3);
    }

    private static void tapeAndCheck() {
        GiantHeart x = new GiantHeart();
        for (int i = 1; i <= 13; i++) {
            Check.due("feed", x.feed(0, 1, 2, 3, -1), 20 * i);
        }
        Check.due("feed beyond 260", x.feed(0, 0, 0, 0, 0), -1);
        Check.due("tape", x.count(3), 260);
        Check.due("check(9)", x.check(9), -2);
        Check.due("check(-1)", x.check(-1), -2);
        Check.due("the tape stays", x.count(3), 260);
        x.place(1, 1, -1, -1);
        x.place(2, 2, -1, -1);
        Check.due("check(3)", x.check(3), -1);
        Check.due("empty then", x.count(3), 0);
        Check.due("check(1) of nothing", x.check(1), -2);
        Check.due("check(0) of nothing", x.check(0), -1);
        x.feed(0, 1, 2, 3, 0);
        Check.due("place 3 is not told", x.check(5), 3);
        x.feed(0, 1, 2, 0, 0x01000000);
        Check.due("the highest byte counts", x.check(5), 4);
        for (int bit = 0; bit < 32; bit++) {
            x.feed(1 << bit, 1, 2, 0, 0);
            Check.due("the first number's bit " + bit, x.check(5), 0);
            x.feed(0, 1, 2, 0, 1 << bit);
            Check.due("the last number's bit " + bit, x.check(5), 4);
        }
        x.place(7, 3, -1, -1);
        x.feed(0, 1, 2, 0, 0);
        x.feed(0, 0, 3, 0, 0);
        Check.due("check(8)", x.check(8), -1);
        x.feed(0, 1, 2, 0, 0);
        x.feed(0, 0, 2, 0, 0);
        Check.due("check(8)", x.check(8), 7);
        x.feed(0, 1, 2, 0, 0);
        Check.due("check(6) of five", x.check(6), -2);
        Check.due("stays", x.count(3), 20);
        Check.due("check(0)", x.check(0), -1);
        Check.due("empty behind 0 too", x.count(3), 0);
        x.feed('g' << 24 | '0' << 16, 0, 0, 0, 0);
        Check.due("the highest byte is first", x.tale(2, 0), 0);
    }

    private static void seeds() {
        GiantHeart x = new GiantHeart();
        Check.due("seed(65535)", x.seed(65535), true);
        Check.due("X", x.count(4), 65535);
        Check.due("seed(65536)", x.seed(65536), false);
        Check.due("seed(-1)", x.seed(-1), false);
        Check.due("X stays", x.count(4), 65535);
        Check.due("seed(0)", x.seed(0), true);
        Check.due("X is 0", x.count(4), 0);
    }

    private static void keptAndUndone() {
        GiantHeart x = new GiantHeart();
        x.way(0, 1, 4);
        x.place(0, 1, -1, 2);
        x.place(1, 1, -1, -1);
        x.more(0, true, 1);
        x.key(2, 1);
        x.heart(1);
        x.seed(77);
        x.night(3);
        int said = x.count(7);
        int drawn = x.count(4);
        Check.due("keep()", x.keep(), 2);
        Check.law(x, "m0(1=1);l0(1=1)");
        x.way(0, 1, 9);
        x.place(0, 2, -1, -1);
        x.place(5, 0, -1, -1);
        x.key(2, 9);
        x.egg(3, true);
        x.night(8);
        x.feed(1, 2, 3, 4, 5);
        Check.due("undo()", x.undo(), true);
        Check.due("the way", x.count(101), 4);
        Check.due("the places", x.count(0), 3);
        Check.due("its island", x.placeIs(0, 0), 1);
        Check.due("its lock", x.placeIs(0, 2), 2);
        Check.due("wet", x.placeIs(0, 3), 1);
        Check.due("flight", x.placeIs(0, 4), 1);
        Check.due("the key", x.count(12), 1);
        Check.due("the heart", x.count(1), 1);
        Check.due("the night", x.count(5), 1);
        Check.due("dusted", x.count(6), 3);
        Check.due("said", x.count(7), said);
        Check.due("X", x.count(4), drawn);
        Check.due("the law is not kept", x.count(2), 2);
        Check.due("eggs are not kept", x.count(8), 8);
        Check.due("the tape is not kept", x.count(3), 20);
        x.heart(0);
        Check.due("undo() once more", x.undo(), true);
        Check.due("the heart again", x.count(1), 1);
        x.place(6, 0, -1, -1);
        Check.due("keep() in place of it", x.keep(), 3);
        x.heart(6);
        x.undo();
        Check.due("kept last", x.count(0), 67);
    }

    public static void main(String[] args) {
        newObject();
        ways();
        places();
        more();
        keysAndHeart();
        tapeAndCheck();
        seeds();
        keptAndUndone();
        Check.end("WorldTest");
    }
}
