import java.util.Random;

/** Drawn calls on the class and on Model, which must answer alike; the draws are seeded, so each run is the same. */
final class AgainstModelTest {
    private final Random random;
    private final GiantHeart x = new GiantHeart();
    private final Model m = new Model();
    private final int run;
    private int asked;

    private AgainstModelTest(int run) {
        this.run = run;
        this.random = new Random(run);
    }

    private int pick(int from, int to) {
        return from + random.nextInt(to - from + 1);
    }

    private boolean chance(int percent) {
        return random.nextInt(100) < percent;
    }

    private static long one(boolean is) {
        return is ? 1 : 0;
    }

    private void due(String call, long got, long want) {
        asked++;
        Check.due("run " + run + ": " + call, got, want);
    }

    // ---- texts

    private String sum(int deep) {
        StringBuilder s = new StringBuilder(factor(deep));
        while (chance(35)) {
            s.append("+-*/%".charAt(pick(0, 4))).append(factor(deep));
        }
        return s.toString();
    }

    private String factor(int deep) {
        if (deep > 0 && chance(15)) {
            return "[" + sum(deep - 1) + "]";
        }
        if (chance(45)) {
            return chance(90) ? Integer.toString(pick(0, 9)) : Integer.toString(pick(0, 99999));
        }
        return "nhidswkorrr".substring(pick(0, 10)).substring(0, 1);
    }

    private String condition(int deep) {
        StringBuilder s = new StringBuilder(piece(deep));
        while (chance(30)) {
            s.append(chance(50) ? '&' : '|').append(piece(deep));
        }
        return s.toString();
    }

    private String piece(int deep) {
        if (deep > 0 && chance(15)) {
            return "!" + piece(deep - 1);
        }
        if (deep > 0 && chance(15)) {
            return "(" + condition(deep - 1) + ")";
        }
        return sum(deep) + "<>=".charAt(pick(0, 2)) + sum(deep);
    }

    private String law() {
        StringBuilder s = new StringBuilder();
        int clauses = chance(5) ? 17 : pick(1, 5);
        for (int c = 0; c < clauses; c++) {
            String e = chance(70) ? sum(pick(0, 2)) : "[" + sum(1) + "]%" + pick(1, 8);
            String condition = chance(20) ? "1=1" : clauses > 10 ? "h<" + pick(0, 9) : condition(chance(10) ? 7 : 2);
            s.append(c > 0 ? ";" : "").append(chance(50) ? 'm' : 'l').append(e).append('(').append(condition).append(')');
        }
        return s.length() > 240 ? "m[h+1]%8(r>4);lr%8(r<8)" : s.toString();
    }

    private String acts() {
        StringBuilder s = new StringBuilder();
        int acts = chance(10) ? pick(30, 33) : pick(1, 9);
        for (int a = 0; a < acts; a++) {
            int letter = pick(0, 5);
            int top = new int[] {3, 3, 7, 7, 7, 2}[letter];
            s.append(a > 0 ? "," : "").append("growsk".charAt(letter)).append(pick(0, top));
        }
        return s.toString();
    }

    private String nights() {
        StringBuilder s = new StringBuilder();
        int nights = chance(10) ? pick(10, 13) : pick(1, 3);
        for (int n = 0; n < nights; n++) {
            s.append(n > 0 ? "," : "").append(chance(20) ? "." : pick(0, 7)).append(pick(0, chance(50) ? 2 : 7));
        }
        return s.toString();
    }

    private String spoilt(String text, int percent) {
        if (!chance(percent)) {
            return text;
        }
        int at = pick(0, text.length() - 1);
        String signs = "0123456789growsknhidml,;.()[]!&|<>=+-*/% x";
        char sign = chance(3) ? (char) pick(0, 255) : signs.charAt(pick(0, signs.length() - 1));
        switch (pick(0, 3)) {
            case 0: return text.substring(0, at) + sign + text.substring(at + 1);
            case 1: return text.substring(0, at) + sign + text.substring(at);
            case 2: return text.substring(0, at) + text.substring(at + 1);
            default: return text.substring(0, at + 1);
        }
    }

    private int feed(String text) {
        for (int from = 0; from < text.length(); from += 20) {
            int[] w = new int[5];
            for (int i = 0; i < 20; i++) {
                w[i / 4] = w[i / 4] << 8 | (from + i < text.length() ? text.charAt(from + i) : pick(0, 255));
            }
            due("feed", x.feed(w[0], w[1], w[2], w[3], w[4]), m.feed(w[0], w[1], w[2], w[3], w[4]));
        }
        return chance(3) ? pick(-1, 260) : text.length();
    }

    private void emptyTape() {
        due("check(0)", x.check(0), m.check(0));
    }

    // ---- calls

    private void tellWorld() {
        int p = pick(-1, 8);
        switch (pick(0, 9)) {
            case 0:
            case 1: {
                int a = pick(-1, 4);
                int b = pick(-1, 4);
                int days = chance(60) ? pick(0, 6) : pick(-1, 31);
                due("way " + a + " " + b + " " + days, one(x.way(a, b, days)), m.way(a, b, days));
                break;
            }
            case 2:
            case 3:
            case 4: {
                int island = pick(chance(5) ? -1 : 0, chance(5) ? 4 : 3);
                int within = chance(60) ? -1 : pick(-2, 7);
                int lock = chance(50) ? -1 : pick(-2, 8);
                due("place", one(x.place(p, island, within, lock)), m.place(p, island, within, lock));
                break;
            }
            case 5:
            case 6: {
                boolean wet = chance(40);
                int flight = chance(60) ? -1 : pick(-2, 8);
                due("more", one(x.more(p, wet, flight)), m.more(p, wet, flight));
                break;
            }
            case 7:
            case 8: {
                int k = pick(-1, 8);
                int where = pick(-2, 11);
                due("key", one(x.key(k, where)), m.key(k, where));
                break;
            }
            default:
                due("heart", one(x.heart(p)), m.heart(p));
                break;
        }
    }

    private void askSeeker() {
        switch (pick(0, 5)) {
            case 0:
                for (int i = -1; i <= 2; i++) {
                    due("soonest " + i, x.soonest(i), m.soonest(i));
                }
                break;
            case 1:
                for (int i = -2; i < 8; i++) {
                    due("plan " + i, x.plan(i), m.plan(i));
                }
                break;
            case 2:
                for (int k = -1; k <= 8; k++) {
                    due("missed " + k, x.missed(k), m.missed(k));
                }
                break;
            case 3: {
                int keys = chance(10) ? pick(-5, 300) : keysInPlaces();
                int asked = chance(50) ? pick(-1, 12) : chance(50) ? 11 : 31 - Integer.numberOfLeadingZeros(keys | 1);
                due("hidden " + keys + " " + asked, x.hidden(keys, asked), m.hidden(keys, asked));
                break;
            }
            default: {
                emptyTape();
                int n = feed(spoilt(acts(), 20));
                int of = pick(chance(5) ? -1 : 0, chance(5) ? 6 : 5);
                due("tale " + of, x.tale(n, of), m.tale(n, of));
                break;
            }
        }
    }

    private void askGiant() {
        switch (pick(0, 6)) {
            case 0: {
                emptyTape();
                int n = feed(spoilt(law(), 30));
                due("law " + n, x.law(n), m.law(n));
                break;
            }
            case 1:
            case 2: {
                int dusted = pick(chance(5) ? -1 : 0, chance(5) ? 9 : 8);
                due("night " + dusted, x.night(dusted), m.night(dusted));
                break;
            }
            case 3: {
                int n = pick(0, 21);
                int what = pick(-1, 4);
                due("tried " + n + " " + what, x.tried(n, what), m.tried(n, what));
                break;
            }
            case 4: {
                int seed = chance(10) ? pick(-3, 65540) : pick(0, 65535);
                due("seed", one(x.seed(seed)), m.seed(seed));
                break;
            }
            case 5: {
                emptyTape();
                int n = feed(spoilt(chance(60) ? trueNights() : nights(), 15));
                int from = chance(90) ? (int) m.count(0) & (chance(50) ? 255 : pick(0, 255)) : pick(-1, 256);
                int what = pick(-1, 17);
                due("story " + n + " " + from + " " + what, x.story(n, from, what), m.story(n, from, what));
                break;
            }
            default: {
                emptyTape();
                int n = feed(spoilt(chance(60) ? trueNights() : nights(), 15));
                int from = chance(90) ? (int) m.count(0) : pick(-1, 256);
                int what = chance(90) ? pick(0, 2) : pick(-1, 3);
                due("toDust " + n + " " + from + " " + what, x.toDust(n, from, what), m.toDust(n, from, what));
                break;
            }
        }
    }

    private void askOthers() {
        int i = pick(-1, 12);
        int j = pick(-2, 12);
        switch (pick(0, 9)) {
            case 0: {
                boolean is = chance(60);
                due("egg", one(x.egg(i, is)), m.egg(i, is));
                break;
            }
            case 1: {
                int bits = chance(95) ? pick(0, 255) : pick(-1, 256);
                due("test", one(x.test(i % 7, bits)), m.test(i % 7, bits));
                break;
            }
            case 2:
                due("apart", x.apart(j % 3), m.apart(j % 3));
                break;
            case 3: {
                int bits = pick(-1, 64);
                due("alike", x.alike(i % 9, bits), m.alike(i % 9, bits));
                break;
            }
            case 4:
            case 5:
                due("owes", one(x.owes(i, j)), m.owes(i, j));
                break;
            case 6:
                due("rings", x.rings(i, j % 6), m.rings(i, j % 6));
                break;
            case 7: {
                emptyTape();
                StringBuilder s = new StringBuilder();
                int n = pick(1, 6);
                for (int w = 0; w < n; w++) {
                    s.append((char) (chance(97) ? pick(1, 99) : pick(0, 255)));
                }
                feed(s.toString());
                int what = chance(30) ? pick(-1, 2) : pick(9, 27);
                due("lots", x.lots(n, what), m.lots(n, what));
                break;
            }
            case 8: {
                emptyTape();
                StringBuilder s = new StringBuilder();
                for (int p = 0; p < 8; p++) {
                    int island = chance(95) && m.placeIs(p, 0) >= 0 ? (int) m.placeIs(p, 0) : 0;
                    s.append("\0\0").append((char) (chance(2) ? 1 : 0)).append((char) island);
                }
                int n = chance(90) ? pick(0, 8) : pick(-1, 9);
                feed(s.toString());
                due("check " + n, x.check(n), m.check(n));
                break;
            }
            default:
                if (chance(50)) {
                    due("keep", x.keep(), m.keep());
                } else if (chance(30)) {
                    due("undo", one(x.undo()), m.undo());
                }
                break;
        }
    }

    private void way(int a, int b, int days) {
        due("way " + a + " " + b + " " + days, one(x.way(a, b, days)), m.way(a, b, days));
    }

    /** A wood with many locks, so that ways to the heart are long and often blocked. */
    private void tellScene() {
        for (int a = 0; a < 3; a++) {
            way(pick(0, a), a + 1, pick(1, 9));
        }
        way(pick(0, 1), pick(2, 3), pick(0, 9));
        int many = pick(4, 8);
        for (int p = 0; p < many; p++) {
            int island = pick(0, 3);
            int within = p > 0 && chance(35) ? pick(0, p - 1) : -1;
            int lock = chance(70) ? pick(0, 7) : -1;
            due("place " + p, one(x.place(p, island, within, lock)), m.place(p, island, within, lock));
        }
        for (int p = 0; p < many - 1; p++) {
            boolean wet = chance(30);
            int flight = chance(30) ? pick(p + 1, many - 1) : -1;
            due("more " + p, one(x.more(p, wet, flight)), m.more(p, wet, flight));
        }
        for (int k = 0; k < 8; k++) {
            int where = chance(15) ? pick(8, 10) : pick(chance(5) ? -1 : 0, many - 1);
            due("key " + k, one(x.key(k, where)), m.key(k, where));
        }
        int heart = pick(0, many - 1);
        due("heart", one(x.heart(heart)), m.heart(heart));
    }

    private void tellOthers() {
        for (int i = 0; i < 12; i++) {
            int other = pick(-1, 11);
            due("owes", one(x.owes(i, other)), m.owes(i, other));
        }
        for (int i = 0; i < 8; i++) {
            boolean is = chance(60);
            due("egg", one(x.egg(i, is)), m.egg(i, is));
        }
        for (int t = 0; t < 6; t++) {
            int bits = pick(0, 255);
            due("test", one(x.test(t, bits)), m.test(t, bits));
        }
    }

    /** KEYS that are in PLACES, as many as hidden() takes, where there are so many. */
    private int keysInPlaces() {
        int bits = 0;
        int most = pick(2, 4);
        for (int i = 0; i < 20 && Integer.bitCount(bits) < most; i++) {
            int k = pick(0, 7);
            bits |= m.count(10 + k) >= 0 && m.count(10 + k) < 8 ? 1 << k : 0;
        }
        return bits;
    }

    /** A STORY as it was: the model's giant says it, all being as before behind it. */
    private String trueNights() {
        Model.Kept before = m.now.copy();
        if (m.count(0) == 0 || m.placeIs(m.now.heart, 0) < 0) {
            return ".0";
        }
        StringBuilder s = new StringBuilder();
        int nights = pick(1, chance(20) ? 12 : 4);
        for (int n = 0; n < nights; n++) {
            int dusted = pick(0, 8);
            s.append(n > 0 ? "," : "").append(dusted == 8 ? "." : "" + dusted).append(m.night(dusted));
        }
        m.now = before;
        return s.toString();
    }

    private int wild() {
        int[] all = {Integer.MIN_VALUE, Integer.MIN_VALUE + 1, -65536, -256, -11, -10, -9, -8, -3, -2, -1, 0, 1, 2, 3, 4, 5,
            6, 7, 8, 9, 10, 11, 12, 16, 17, 20, 21, 31, 63, 64, 100, 115, 240, 255, 256, 65535, 65536,
            Integer.MAX_VALUE - 10, Integer.MAX_VALUE};
        return chance(10) ? random.nextInt() : all[pick(0, all.length - 1)];
    }

    /** Each call with any arguments. */
    private void callWildly() {
        int a = wild();
        int b = wild();
        int c = wild();
        int d = wild();
        boolean is = chance(50);
        due("way", one(x.way(a, b, c)), m.way(a, b, c));
        due("place", one(x.place(a, b, c, d)), m.place(a, b, c, d));
        due("more", one(x.more(a, is, b)), m.more(a, is, b));
        due("key", one(x.key(a, b)), m.key(a, b));
        due("heart", one(x.heart(a)), m.heart(a));
        due("feed", x.feed(a, b, c, d, a), m.feed(a, b, c, d, a));
        due("law", x.law(a), m.law(a));
        due("feed", x.feed(a, b, c, d, a), m.feed(a, b, c, d, a));
        due("tale", x.tale(a, b), m.tale(a, b));
        due("soonest", x.soonest(a), m.soonest(a));
        due("plan", x.plan(a), m.plan(a));
        due("missed", x.missed(a), m.missed(a));
        due("hidden", x.hidden(a, b), m.hidden(a, b));
        due("night", x.night(a), m.night(a));
        due("tried", x.tried(a, b), m.tried(a, b));
        due("feed", x.feed(a, b, c, d, a), m.feed(a, b, c, d, a));
        due("story", x.story(a, b, c), m.story(a, b, c));
        due("toDust", x.toDust(b, c, a), m.toDust(b, c, a));
        due("lots", x.lots(c, b), m.lots(c, b));
        due("egg", one(x.egg(a, is)), m.egg(a, is));
        due("test", one(x.test(a, b)), m.test(a, b));
        due("apart", x.apart(a), m.apart(a));
        due("alike", x.alike(a, b), m.alike(a, b));
        due("owes", one(x.owes(a, b)), m.owes(a, b));
        due("rings", x.rings(a, b), m.rings(a, b));
        due("placeIs", x.placeIs(a, b), m.placeIs(a, b));
        due("seed", one(x.seed(a)), m.seed(a));
        due("count", x.count(a), m.count(a));
        due("check", x.check(a), m.check(a));
    }

    private void compareAll() {
        for (int what = -1; what <= 20; what++) {
            due("count " + what, x.count(what), m.count(what));
        }
        for (int what = 99; what <= 116; what++) {
            due("count " + what, x.count(what), m.count(what));
        }
        for (int p = -1; p <= 8; p++) {
            for (int what = -1; what <= 7; what++) {
                due("placeIs " + p + " " + what, x.placeIs(p, what), m.placeIs(p, what));
            }
        }
    }

    /** No more than 512 calls in all: what later ones answer is free. */
    private void play() {
        boolean isScene = chance(60);
        if (isScene) {
            tellScene();
        }
        if (chance(50)) {
            tellOthers();
        }
        while (asked < 270) {
            int kind = pick(0, 99);
            if (kind < (isScene ? 10 : asked < 100 ? 70 : 25)) {
                tellWorld();
            } else if (kind < 60) {
                askSeeker();
            } else if (kind < 85) {
                askGiant();
            } else {
                askOthers();
            }
        }
        for (int i = 0; i < 3; i++) {
            callWildly();
        }
        compareAll();
        Check.due("run " + run + ": not above 512 calls", asked <= 512, true);
    }

    public static void main(String[] args) {
        int runs = args.length > 0 ? Integer.parseInt(args[0]) : 700;
        for (int run = 0; run < runs; run++) {
            new AgainstModelTest(run).play();
        }
        Check.end("AgainstModelTest");
    }
}
