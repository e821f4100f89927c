import java.util.ArrayList;
import java.util.List;

/** Worlds in which much is told, and all that an object shows of itself, within its 512 calls. */
final class Scene {
    static final String LAW = "m[h+1]%7(r<7);l[h+3]%7(r>2&n<9)";

    private Scene() {
    }

    /** All but PLACES 3 and 7 told, something in each kind of thing; a law's text on the tape. */
    static GiantHeart full() {
        GiantHeart x = withoutKept();
        x.keep();
        x.heart(5);
        x.way(1, 3, 7);
        x.key(1, 6);
        x.place(6, 3, -1, 5);
        Check.feed(x, LAW);
        return x;
    }

    /** As full(), but nothing was kept and the tape is empty. */
    static GiantHeart withoutKept() {
        GiantHeart x = new GiantHeart();
        x.way(0, 1, 3);
        x.way(1, 2, 4);
        x.way(3, 0, 30);
        x.place(0, 0, -1, -1);
        x.place(1, 1, -1, 0);
        x.place(2, 0, 1, 1);
        x.place(4, 2, -1, -1);
        x.place(5, 0, 4, 2);
        x.place(6, 3, -1, 7);
        x.more(1, true, -1);
        x.more(2, false, 5);
        x.more(5, true, -1);
        x.key(0, 0);
        x.key(1, 1);
        x.key(2, 8);
        x.key(3, 9);
        x.key(4, 10);
        x.key(7, 0);
        x.heart(2);
        x.seed(4711);
        Check.law(x, "m4(r<5);l0(d>3)");
        x.night(2);
        for (int i = 0; i < 6; i++) {
            x.egg(i, true);
            x.test(i, 1 << i | 1 << 7 - i);
        }
        for (int i = 0; i < 9; i++) {
            x.owes(i, i == 5 ? 3 : i + 1);
        }
        return x;
    }

    /** As full(), but for the text on the tape. */
    static GiantHeart fed(String text) {
        GiantHeart x = full();
        x.check(0);
        Check.feed(x, text);
        return x;
    }

    /** As full(), but with 260 bytes on the tape. */
    static GiantHeart fullTape() {
        GiantHeart x = full();
        while (x.feed(0x6D332831, 0x3D31293B, 0x6D332831, 0x3D31293B, 0x6D332831) > 0) {
            continue;
        }
        return x;
    }

    /** THE HEART is in PLACE 0, which is not told; all else is told. */
    static GiantHeart noHeart() {
        GiantHeart x = new GiantHeart();
        x.way(0, 1, 2);
        for (int p = 1; p < 8; p++) {
            x.place(p, p % 4, -1, p - 1);
        }
        for (int k = 1; k < 8; k++) {
            x.key(k, 8 - k);
        }
        Check.feed(x, LAW);
        return x;
    }

    /** IT IS never HAD: two dry PLACES with a LOCK, the KEY nowhere, and the wolf opens but one. */
    static GiantHeart never() {
        GiantHeart x = new GiantHeart();
        x.place(0, 0, -1, 5);
        x.place(1, 0, -1, 5);
        x.place(2, 0, -1, -1);
        x.more(0, false, 1);
        x.key(0, 2);
        x.key(1, 2);
        Check.feed(x, LAW);
        return x;
    }

    /** IT IS HAD in one DAY; nothing on the tape. */
    static GiantHeart soon() {
        GiantHeart x = new GiantHeart();
        x.place(0, 0, -1, -1);
        x.place(1, 0, -1, -1);
        x.key(0, 0);
        x.key(1, 1);
        return x;
    }

    /** What is KEPT: ISLANDS, PLACES, KEYS, THE HEART, THE NIGHT, DUSTED, SAID, X. */
    static List<Long> world(GiantHeart x) {
        List<Long> all = new ArrayList<>();
        for (int what : new int[] {0, 1, 4, 5, 6, 7}) {
            all.add((long) x.count(what));
        }
        for (int k = 0; k < 8; k++) {
            all.add((long) x.count(10 + k));
        }
        for (int way = 0; way < 16; way++) {
            all.add((long) x.count(100 + way));
        }
        for (int p = 0; p < 8; p++) {
            for (int what = 0; what < 7; what++) {
                all.add((long) x.placeIs(p, what));
            }
        }
        return all;
    }

    /** All that the object shows: two that were used alike show the same. The object is spent behind it. */
    static List<Long> picture(GiantHeart x) {
        List<Long> all = world(x);
        all.add((long) x.count(2));
        all.add((long) x.count(3));
        all.add((long) x.count(8));
        all.add((long) x.soonest(0));
        all.add((long) x.soonest(1));
        all.add((long) x.plan(-1));
        all.add((long) x.apart(1));
        for (int i = 0; i < 12; i++) {
            all.add((long) x.rings(i, 3));
            all.add((long) x.rings(i, 4));
        }
        for (int what = 0; what < 3; what++) {
            all.add((long) x.rings(0, what));
        }
        for (int i = 0; i < 8; i++) {
            x.egg(i, true);
        }
        for (int t = 0; t < 6; t++) {
            all.add((long) x.alike(0, 1 << t));
        }
        nights(x, all);
        // the tape's bytes show as a law, or as the place of what can't stand in it
        all.add((long) x.law(x.count(3) < 20 ? 0 : x.count(3) < 40 ? 8 : LAW.length()));
        nights(x, all);
        all.add(x.undo() ? 1L : 0L);
        all.addAll(world(x));
        return all;
    }

    private static void nights(GiantHeart x, List<Long> all) {
        for (int what = 0; what < 4; what++) {
            all.add((long) x.tried(20, what));
        }
        for (int i = 0; i < 5; i++) {
            all.add((long) x.night(2 * i));
            all.add((long) x.count(1));
        }
    }
}
