import java.util.List;
import java.util.function.Supplier;

/**
 * Each refused call, promise by promise: what it answers, and that it leaves all as it was but the tape, where that is
 * told. The object shows the same behind it as a twin that was not called. Questions that are answered are asked, too.
 */
final class RefusedTest {
    private static final int MIN = Integer.MIN_VALUE;
    private static final int MAX = Integer.MAX_VALUE;

    private RefusedTest() {
    }

    interface Call {
        long on(GiantHeart x);
    }

    private static void same(String name, GiantHeart x, GiantHeart twin) {
        List<Long> shown = Scene.picture(x);
        List<Long> due = Scene.picture(twin);
        for (int i = 0; i < due.size(); i++) {
            Check.due(name + ": what is shown at " + i, shown.get(i), due.get(i));
        }
    }

    /** Refused, and nothing at all changes. */
    private static void stays(String name, Supplier<GiantHeart> scene, long due, Call call) {
        GiantHeart x = scene.get();
        Check.due(name, call.on(x), due);
        same(name, x, scene.get());
    }

    /** Refused or only asked: nothing changes, but the tape is empty then. */
    private static void empties(String name, Supplier<GiantHeart> scene, long due, Call call) {
        GiantHeart x = scene.get();
        GiantHeart twin = scene.get();
        Check.due(name, call.on(x), due);
        Check.due(name + ": the tape", x.count(3), 0);
        twin.check(0);
        same(name, x, twin);
    }

    private static void stays(String name, long due, Call call) {
        stays(name, Scene::full, due, call);
    }

    private static void refused(String name, Call call) {
        stays(name, Scene::full, 0, call);
    }

    private static long one(boolean is) {
        return is ? 1 : 0;
    }

    /** Promises 2 to 7. */
    private static void tellings() {
        for (int[] no : new int[][] {{-1, 0, 2}, {4, 0, 2}, {0, -1, 2}, {0, 4, 2}, {MIN, 0, 2}, {0, MAX, 2}, {MAX, MAX, 2},
            {0, 1, -1}, {0, 1, 31}, {0, 1, MIN}, {0, 1, MAX}, {0, 0, 5}, {3, 3, 0}, {1, 1, 30}, {-1, -1, 1}, {4, 4, 1}}) {
            refused("way " + no[0] + " " + no[1] + " " + no[2], x -> one(x.way(no[0], no[1], no[2])));
        }
        for (int[] no : new int[][] {{-1, 0, -1, -1}, {8, 0, -1, -1}, {MIN, 0, -1, -1}, {MAX, 0, -1, -1},
            {0, -1, -1, -1}, {0, 4, -1, -1}, {0, MIN, -1, -1}, {0, MAX, -1, -1},
            {5, 0, 3, -1}, {4, 0, 3, -1}, {4, 0, 4, -1}, {4, 0, 5, -1}, {4, 0, 6, -1}, {0, 0, 0, -1}, {4, 0, 7, -1},
            {4, 0, -2, -1}, {4, 0, 8, -1}, {4, 0, MIN, -1}, {4, 0, MAX, -1}, {8, 0, 6, -1}, {-1, 0, 0, -1},
            {0, 0, -1, -2}, {0, 0, -1, 8}, {2, 0, 1, -2}, {2, 0, 1, 8}, {0, 0, -1, MIN}, {0, 0, -1, MAX}}) {
            refused("place " + no[0] + " " + no[1] + " " + no[2] + " " + no[3],
                x -> one(x.place(no[0], no[1], no[2], no[3])));
        }
        for (int[] no : new int[][] {{-1, -1}, {8, -1}, {MIN, -1}, {MAX, -1}, {3, -1}, {7, -1}, {3, 5},
            {1, -2}, {1, 8}, {1, MIN}, {1, MAX}, {1, 3}, {1, 7}, {1, 1}, {1, 0}, {6, 5}, {6, 7}, {-1, 4}, {8, 4}}) {
            refused("more " + no[0] + " to " + no[1], x -> one(x.more(no[0], false, no[1])));
            refused("more " + no[0] + " wet, to " + no[1], x -> one(x.more(no[0], true, no[1])));
        }
        for (int[] no : new int[][] {{-1, 0}, {8, 0}, {MIN, 0}, {MAX, 0}, {0, -2}, {0, 11}, {0, MIN}, {0, MAX}, {0, 3}, {0, 7},
            {-1, -1}, {8, -1}, {8, 8}, {-1, 10}, {8, 9}}) {
            refused("key " + no[0] + " " + no[1], x -> one(x.key(no[0], no[1])));
        }
        for (int no : new int[] {-1, 8, MIN, MAX, 3, 7, 12, 64}) {
            refused("heart " + no, x -> one(x.heart(no)));
        }
        stays("feed onto 260", Scene::fullTape, -1, x -> x.feed(0x78787878, 0x78787878, 0x78787878, 0x78787878, 0x78787878));
    }

    /** Promise 8: NONE: the tape stays; a FAULT: it is empty, and the law before stays. */
    private static void laws() {
        for (int no : new int[] {0, -1, 241, 260, MIN, MAX}) {
            stays("law " + no, Scene::fullTape, -1, x -> x.law(no));
        }
        for (int no : new int[] {0, -1, 41, 240, 241}) {
            stays("law " + no + " of 40", -1, x -> x.law(no));
        }
        // where NONE and a FAULT fit, NONE is told
        for (int no : new int[] {0, 21, 241}) {
            stays("law " + no + " of x", () -> Scene.fed("xxxx"), -1, x -> x.law(no));
        }
        empties("fault 1", () -> Scene.fed("m5(1=1);x"), -1008, x -> x.law(9));
        empties("fault 1 at the end", () -> Scene.fed("m5(1=1);l5(1=1)"), -1014, x -> x.law(14));
        empties("fault 2", () -> Scene.fed("m5(1=1);l000000(1=1)"), -2014, x -> x.law(20));
        empties("fault 4", () -> Scene.fed("m5(1=1);".repeat(16) + "l"), -4128, x -> x.law(129));
        empties("fault 5", () -> Scene.fed("m5(!!!!!!1=1)"), -5008, x -> x.law(13));
    }

    /** Promise 9: a TALE only asks. */
    private static void tales() {
        for (int no : new int[] {0, -1, 101, 260, MIN, MAX}) {
            stays("tale " + no, Scene::fullTape, -1, x -> x.tale(no, 0));
        }
        for (int no : new int[] {-1, 6, 10, MIN, MAX}) {
            stays("tale what " + no, () -> Scene.fed("g1,o1"), -1, x -> x.tale(5, no));
            stays("tale what " + no + " of a fault", () -> Scene.fed("x"), -1, x -> x.tale(1, no));
        }
        stays("tale 21 of 20", () -> Scene.fed("x"), -1, x -> x.tale(21, 0));
        long[] judged = {4, 5, 3, 145, 1, 0};
        for (int what = 0; what < 6; what++) {
            int of = what;
            empties("tale " + what, () -> Scene.fed("o0,g1,o1,k2,k2"), judged[what], x -> x.tale(14, of));
        }
        empties("tale fault 1", () -> Scene.fed("g1,o1;"), -1005, x -> x.tale(6, 0));
        empties("tale fault 3", () -> Scene.fed("g1,g4,x"), -3004, x -> x.tale(7, 5));
        empties("tale fault 4", () -> Scene.fed("k0,".repeat(33)), -4096, x -> x.tale(99, 5));
    }

    /** Promises 10 to 12. */
    private static void ways() {
        for (int no : new int[] {-1, 2, 10, MIN, MAX}) {
            stays("soonest " + no, -1, x -> x.soonest(no));
            stays("soonest " + no + ", never", Scene::never, -1, x -> x.soonest(no));
        }
        for (int what = -2; what <= 2; what++) {
            int of = what;
            stays("soonest without a heart", Scene::noHeart, -1, x -> x.soonest(of));
            stays("plan without a heart", Scene::noHeart, -1, x -> x.plan(of));
            stays("missed without a heart", Scene::noHeart, -1, x -> x.missed(of));
            stays("plan, never", Scene::never, -2, x -> x.plan(of));
        }
        stays("soonest 0", 2, x -> x.soonest(0));
        stays("soonest 1", 1, x -> x.soonest(1));
        stays("soonest 0, never", Scene::never, -2, x -> x.soonest(0));
        stays("soonest 1, never", Scene::never, -2, x -> x.soonest(1));
        stays("plan", 2, x -> x.plan(-1));
        stays("plan 0", 12, x -> x.plan(0));
        stays("plan 1", 45, x -> x.plan(1));
        for (int no : new int[] {2, 3, -2, MIN, MAX}) {
            stays("plan " + no, -3, x -> x.plan(no));
            stays("plan " + no + ", never", Scene::never, -2, x -> x.plan(no));
        }
        for (int no : new int[] {-1, 8, 10, MIN, MAX}) {
            stays("missed " + no, -1, x -> x.missed(no));
            // NONE is told ahead of -3
            stays("missed " + no + ", never", Scene::never, -1, x -> x.missed(no));
        }
        for (int k = 0; k < 8; k++) {
            int of = k;
            stays("missed " + k, 0, x -> x.missed(of));
            // also where it is never had then, either
            stays("missed " + k + ", never", Scene::never, -3, x -> x.missed(of));
        }
    }

    private static GiantHeart eightKeys() {
        GiantHeart x = Scene.full();
        for (int k = 0; k < 8; k++) {
            x.key(k, k % 3);
        }
        return x;
    }

    /** Promise 13. */
    private static void hidden() {
        for (int no : new int[] {0, 1, 2, 64, 128, 31, 62, 255, 248, 256, 257, 259, -1, -4, MIN, MIN + 3, MAX}) {
            stays("hidden " + no, RefusedTest::eightKeys, -1, x -> x.hidden(no, 10));
            stays("hidden " + no, RefusedTest::eightKeys, -1, x -> x.hidden(no, 11));
            stays("hidden " + no, RefusedTest::eightKeys, -1, x -> x.hidden(no, 0));
        }
        // 2, 3, 4 are in beasts' mouths, 5 and 6 nowhere; 0, 1, 7 are in places
        for (int no : new int[] {1 + 4, 1 + 8, 1 + 16, 1 + 32, 1 + 64, 3 + 4, 131 + 64, 4 + 8, 32 + 64}) {
            stays("hidden " + no, -1, x -> x.hidden(no, 10));
            stays("hidden " + no, -1, x -> x.hidden(no, 11));
        }
        for (int k = 0; k < 8; k++) {
            for (int where : new int[] {-1, 8, 9, 10}) {
                int one = k;
                int other = k == 3 ? 4 : 3;
                Supplier<GiantHeart> scene = () -> {
                    GiantHeart x = eightKeys();
                    x.key(one, where);
                    return x;
                };
                stays("hidden, " + k + " at " + where, scene, -1, x -> x.hidden(1 << one | 1 << other, 10));
                stays("hidden, " + k + " at " + where, scene, -1, x -> x.hidden(1 << one | 1 << other, other));
            }
        }
        for (int what : new int[] {-1, 2, 6, 8, 9, 12, 32, MIN, MAX}) {
            stays("hidden what " + what, -1, x -> x.hidden(131, what));
        }
        stays("hidden 3 what 7", -1, x -> x.hidden(3, 7));
        stays("hidden without a heart", Scene::noHeart, -1, x -> x.hidden(6, 10));
        stays("hidden without a heart", Scene::noHeart, -1, x -> x.hidden(6, 1));
        stays("hidden, never", Scene::never, -2, x -> x.hidden(3, 10));
        stays("hidden, never", Scene::never, -2, x -> x.hidden(3, 11));
        stays("hidden, never", Scene::never, -2, x -> x.hidden(3, 1));
        stays("hidden NONE ahead of never", Scene::never, -1, x -> x.hidden(3, 2));
        stays("hidden NONE ahead of never", Scene::never, -1, x -> x.hidden(1, 10));
        stays("hidden 10", 2, x -> x.hidden(131, 10));
        for (int k : new int[] {0, 1, 7}) {
            stays("hidden " + k, k, x -> x.hidden(131, k));
        }
        // all are wet, so the wolf opens none, and the salmon must give key 3, which two need
        Supplier<GiantHeart> row = () -> {
            GiantHeart x = new GiantHeart();
            x.place(0, 0, -1, -1);
            x.place(1, 0, -1, 1);
            x.place(2, 0, -1, 2);
            x.place(4, 0, -1, 3);
            x.place(5, 0, -1, 3);
            x.more(5, true, -1);
            x.more(4, true, 5);
            x.more(2, true, 4);
            x.more(1, true, -1);
            x.more(0, true, -1);
            x.heart(2);
            x.key(1, 1);
            x.key(2, 0);
            x.key(3, 10);
            return x;
        };
        // o0 o2 k2 o4 o5; if 1 and 2 change: o0 o1 o2 k2 o4 o5
        stays("as it is", row, 4, x -> x.soonest(0));
        stays("hidden 10 asks only", row, 5, x -> x.hidden(6, 10));
        stays("hidden 1 asks only", row, 2, x -> x.hidden(6, 1));
        stays("hidden 2 asks only", row, 1, x -> x.hidden(6, 2));
    }

    /** Promises 14 and 15. */
    private static void nights() {
        for (int no : new int[] {-1, 9, 10, MIN, MAX}) {
            stays("night " + no, -1, x -> x.night(no));
        }
        for (int dusted : new int[] {0, 7, 8, 9}) {
            stays("night without a heart", Scene::noHeart, -1, x -> x.night(dusted));
        }
        for (int n : new int[] {0, -1, 21, 22, MIN, MAX}) {
            stays("tried " + n, -1, x -> x.tried(n, 0));
        }
        for (int what : new int[] {-1, 4, 5, MIN, MAX}) {
            stays("tried what " + what, -1, x -> x.tried(1, what));
        }
        for (int what = 0; what < 4; what++) {
            int of = what;
            stays("tried without a heart", Scene::noHeart, -1, x -> x.tried(1, of));
        }
        // m4(r<5);l0(d>3): what he said is 2 and 5 is where the heart is; then he says where it is
        stays("tried asks only", 1, x -> x.tried(1, 2));
    }

    /** Promises 16 and 17. */
    private static void stories() {
        for (int n : new int[] {0, -1, 61, 260, MIN, MAX}) {
            stays("story " + n, Scene::fullTape, -1, x -> x.story(n, 1, 0));
            stays("toDust " + n, Scene::fullTape, -1, x -> x.toDust(n, 1, 0));
        }
        for (int n : new int[] {0, 21, 60, 61}) {
            // NONE ahead of a FAULT and of -3
            stays("story " + n + " of 20", () -> Scene.fed("x"), -1, x -> x.story(n, 0, 99));
            stays("toDust " + n + " of 20", () -> Scene.fed("x"), -1, x -> x.toDust(n, 0, 99));
        }
        Object[][] faults = {{".8", -1001}, {".1;", -1002}, {"9", -1000}, {".", -1001}, {".1,", -1003},
            {".1,".repeat(12) + ".", -4036}, {".1,".repeat(12) + "8", -1036}};
        for (Object[] one : faults) {
            String text = (String) one[0];
            int due = (Integer) one[1];
            for (int places : new int[] {1, 0, 8}) {
                for (int what : new int[] {0, 99}) {
                    empties("story " + text, () -> Scene.fed(text), due, x -> x.story(text.length(), places, what));
                    empties("toDust " + text, () -> Scene.fed(text), due, x -> x.toDust(text.length(), places, what));
                }
            }
        }
        // 3 and 7 are not told; he can never say 3, so where -2 fits too, -3 is told
        for (String text : new String[] {".0", ".3"}) {
            for (int places : new int[] {0, 8, 128, 119 + 8, 255, 256, 256 + 1, -1, MIN, MIN + 1, MAX}) {
                empties("story from " + places, () -> Scene.fed(text), -3, x -> x.story(2, places, 0));
                empties("toDust from " + places, () -> Scene.fed(text), -3, x -> x.toDust(2, places, 0));
            }
            for (int what : new int[] {-1, 17, 18, MIN, MAX}) {
                empties("story what " + what, () -> Scene.fed(text), -3, x -> x.story(2, 1, what));
            }
            for (int what : new int[] {-1, 3, 4, 16, MIN, MAX}) {
                empties("toDust what " + what, () -> Scene.fed(text), -3, x -> x.toDust(2, 1, what));
            }
        }
        for (int what = 0; what < 17; what++) {
            int of = what;
            empties("story that can't be", () -> Scene.fed(".3"), -2, x -> x.story(2, 119, of));
            // m4(r<5);l0(d>3): dusting 8 he says 0
            long due = what == 16 ? 2 : what == 0 || what == 4 ? 1 : what == 8 || what == 12 ? 2 : what < 8 ? 0 : 1;
            empties("story " + what, () -> Scene.fed(".0"), due, x -> x.story(2, 1, of));
        }
        for (int what = 0; what < 3; what++) {
            int of = what;
            empties("toDust what can't be", () -> Scene.fed(".3"), -2, x -> x.toDust(2, 119, of));
            empties("toDust " + what, () -> Scene.fed(".0"), what == 0 ? 0 : 1, x -> x.toDust(2, 1, of));
        }
    }

    /** Promise 18. */
    private static void lots() {
        for (int n : new int[] {0, -1, 7, 20, MIN, MAX}) {
            stays("lots " + n, () -> Scene.fed("aaaaaaaaaa"), -1, x -> x.lots(n, 0));
        }
        for (int what : new int[] {-1, 2, 9, 12, 16, 19, 22, 26, 30, MIN, MAX}) {
            stays("lots what " + what, () -> Scene.fed("aa"), -1, x -> x.lots(2, what));
            // m is worth 109, which is none, but NONE is told first
            stays("lots what " + what, () -> Scene.fed("am"), -1, x -> x.lots(2, what));
        }
        Supplier<GiantHeart> none = () -> {
            GiantHeart x = Scene.full();
            x.check(0);
            return x;
        };
        stays("lots of an empty tape", none, -1, x -> x.lots(1, 0));
        for (int what : new int[] {0, 1, 10, 11, 20, 21}) {
            empties("lots no worth", () -> Scene.fed("am"), -2, x -> x.lots(2, what));
            empties("lots no worth", () -> Scene.fed("\0a"), -2, x -> x.lots(2, what));
            empties("lots no worth", () -> Scene.fed("a\u00ff"), -2, x -> x.lots(2, what));
            empties("lots no worth", () -> Scene.fed("da"), -2, x -> x.lots(2, what));
        }
        // c is worth 99
        empties("lots", () -> Scene.fed("ccm"), 99, x -> x.lots(2, 0));
        empties("lots", () -> Scene.fed("ccm"), 2, x -> x.lots(2, 1));
        empties("lots", () -> Scene.fed("ccm"), 1, x -> x.lots(2, 11));
        empties("lots", () -> Scene.fed("ccm"), 2, x -> x.lots(2, 21));
    }

    /** Promises 19 to 24. */
    private static void others() {
        for (int i : new int[] {-1, 8, 9, 32, MIN, MAX}) {
            refused("egg " + i, x -> one(x.egg(i, true)));
            refused("egg " + i, x -> one(x.egg(i, false)));
        }
        for (int i = 0; i < 6; i++) {
            int of = i;
            refused("egg is told " + i, x -> one(x.egg(of, true)));
        }
        refused("egg is not told", x -> one(x.egg(6, false)));
        refused("egg is not told", x -> one(x.egg(7, false)));
        for (int[] no : new int[][] {{-1, 3}, {6, 3}, {MIN, 3}, {MAX, 3}, {0, -1}, {0, 256}, {5, -1}, {5, 256}, {0, MIN},
            {0, MAX}, {6, 256}}) {
            refused("test " + no[0] + " " + no[1], x -> one(x.test(no[0], no[1])));
        }
        for (int what : new int[] {-1, 2, MIN, MAX}) {
            stays("apart " + what, -1, x -> x.apart(what));
        }
        // eggs 0 to 5, and each test shows two that add up to 7: 0 and 1 are shown by themselves, 2 and 5, 3 and 4 alike
        stays("apart can't be", -2, x -> x.apart(0));
        stays("apart can't be", -2, x -> x.apart(1));
        for (int[] no : new int[][] {{-1, 0}, {8, 0}, {6, 0}, {7, 63}, {MIN, 0}, {MAX, 0}, {0, -1}, {0, 64}, {0, MIN}, {0, MAX},
            {6, 64}}) {
            stays("alike " + no[0] + " " + no[1], -1, x -> x.alike(no[0], no[1]));
        }
        stays("alike", 4 + 32, x -> x.alike(2, 63));
        for (int[] no : new int[][] {{-1, 0}, {12, 0}, {MIN, 0}, {MAX, 0}, {0, -2}, {0, 12}, {0, MIN}, {0, MAX}, {0, 0}, {5, 5},
            {11, 11}, {-1, -1}, {12, -1}}) {
            refused("owes " + no[0] + " " + no[1], x -> one(x.owes(no[0], no[1])));
        }
        for (int what : new int[] {-1, 5, 6, MIN, MAX}) {
            stays("rings what " + what, -1, x -> x.rings(0, what));
            stays("rings what " + what, -1, x -> x.rings(-1, what));
        }
        for (int i : new int[] {-1, 12, MIN, MAX}) {
            stays("rings of " + i, -1, x -> x.rings(i, 3));
            stays("rings of " + i, -1, x -> x.rings(i, 4));
            // a ring of 3, 4, 5
            stays("rings of any", 1, x -> x.rings(i, 0));
            stays("rings of any", 3, x -> x.rings(i, 1));
            stays("rings of any", 3, x -> x.rings(i, 2));
        }
    }

    /** Promises 25 to 30. */
    private static void rest() {
        for (int[] no : new int[][] {{-1, 0}, {8, 0}, {3, 0}, {7, 6}, {MIN, 0}, {MAX, 0}, {0, -1}, {0, 7}, {0, MIN}, {0, MAX}}) {
            stays("placeIs " + no[0] + " " + no[1], -1, x -> x.placeIs(no[0], no[1]));
        }
        for (int no : new int[] {-1, 65536, 65537, MIN, MAX}) {
            refused("seed " + no, x -> one(x.seed(no)));
        }
        stays("undo, none was kept", Scene::withoutKept, 0, x -> one(x.undo()));
        for (int no : new int[] {-1, 9, 10, 65, MIN, MAX, 1 << 30}) {
            stays("check " + no, Scene::fullTape, -2, x -> x.check(no));
        }
        stays("check 6 of 20 bytes", () -> Scene.fed("a"), -2, x -> x.check(6));
        stays("check 1 of none", Scene::withoutKept, -2, x -> x.check(1));
        empties("check 0", Scene::full, -1, x -> x.check(0));
        empties("check not right", Scene::full, 0, x -> x.check(8));
        for (int no : new int[] {-1, 9, 18, 19, 99, 116, 117, MIN, MAX}) {
            stays("count " + no, -1, x -> x.count(no));
        }
    }

    public static void main(String[] args) {
        tellings();
        laws();
        tales();
        ways();
        hidden();
        nights();
        stories();
        lots();
        others();
        rest();
        Check.end("RefusedTest");
    }
}
