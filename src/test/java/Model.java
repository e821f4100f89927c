import java.util.ArrayList;
import java.util.Arrays;
import java.util.HashMap;
import java.util.List;
import java.util.Map;
import java.util.PriorityQueue;
import java.util.TreeMap;

/**
 * The document told a second time, by other means than the class (texts interpreted as they stand, the plan searched
 * with a queue of rows, fractions of big weights), so that a slip in one of the two shows as a difference.
 */
final class Model {
    static final class Kept {
        final int[][] ways = new int[4][4];
        final boolean[] told = new boolean[8];
        final int[] island = new int[8];
        final int[] within = {-1, -1, -1, -1, -1, -1, -1, -1};
        final int[] lock = {-1, -1, -1, -1, -1, -1, -1, -1};
        final boolean[] wet = new boolean[8];
        final int[] flight = {-1, -1, -1, -1, -1, -1, -1, -1};
        final int[] keyAt = {-1, -1, -1, -1, -1, -1, -1, -1};
        int heart = 0;
        int night = 0;
        int dusted = 8;
        int said = 8;
        int x = 1;

        Kept copy() {
            Kept c = new Kept();
            for (int i = 0; i < 4; i++) {
                c.ways[i] = ways[i].clone();
            }
            System.arraycopy(told, 0, c.told, 0, 8);
            System.arraycopy(island, 0, c.island, 0, 8);
            System.arraycopy(within, 0, c.within, 0, 8);
            System.arraycopy(lock, 0, c.lock, 0, 8);
            System.arraycopy(wet, 0, c.wet, 0, 8);
            System.arraycopy(flight, 0, c.flight, 0, 8);
            System.arraycopy(keyAt, 0, c.keyAt, 0, 8);
            c.heart = heart;
            c.night = night;
            c.dusted = dusted;
            c.said = said;
            c.x = x;
            return c;
        }
    }

    Kept now = new Kept();
    Kept kept = null;
    List<Integer> tape = new ArrayList<>();
    String lawText = "";
    int clauses = 0;
    boolean[] eggs = new boolean[8];
    int[] tests = new int[6];
    int[] owed = new int[12];

    Model() {
        Arrays.fill(owed, -1);
    }

    // ---- the world

    private boolean told(int p) {
        return p >= 0 && p <= 7 && now.told[p];
    }

    private int isle(int p) {
        return now.within[p] < 0 ? now.island[p] : isle(now.within[p]);
    }

    long way(int a, int b, int days) {
        if (a < 0 || a > 3 || b < 0 || b > 3 || a == b || days < 0 || days > 30) {
            return 0;
        }
        now.ways[a][b] = days;
        now.ways[b][a] = days;
        return 1;
    }

    long place(int p, int island, int within, int lock) {
        if (p < 0 || p > 7 || lock < -1 || lock > 7 || within < -1 || within > 7) {
            return 0;
        }
        if (within == -1 && (island < 0 || island > 3)) {
            return 0;
        }
        if (within >= 0 && (!told(within) || within >= p)) {
            return 0;
        }
        now.told[p] = true;
        now.island[p] = island;
        now.within[p] = within;
        now.lock[p] = lock;
        now.wet[p] = false;
        now.flight[p] = -1;
        return 1;
    }

    long more(int p, boolean wet, int flight) {
        if (!told(p) || flight < -1 || flight > 7 || (flight >= 0 && (!told(flight) || flight <= p))) {
            return 0;
        }
        now.wet[p] = wet;
        now.flight[p] = flight;
        return 1;
    }

    long key(int k, int where) {
        if (k < 0 || k > 7 || where < -1 || where > 10 || (where >= 0 && where < 8 && !told(where))) {
            return 0;
        }
        now.keyAt[k] = where;
        return 1;
    }

    long heart(int p) {
        if (!told(p)) {
            return 0;
        }
        now.heart = p;
        return 1;
    }

    long seed(int x) {
        if (x < 0 || x > 65535) {
            return 0;
        }
        now.x = x;
        return 1;
    }

    long keep() {
        kept = now.copy();
        int many = 0;
        for (boolean t : now.told) {
            many += t ? 1 : 0;
        }
        return many;
    }

    long undo() {
        if (kept == null) {
            return 0;
        }
        now = kept.copy();
        return 1;
    }

    private int keysIn(int where) {
        int bits = 0;
        for (int k = 0; k < 8; k++) {
            if (now.keyAt[k] == where) {
                bits += 1 << k;
            }
        }
        return bits;
    }

    long placeIs(int p, int what) {
        if (!told(p) || what < 0 || what > 6) {
            return -1;
        }
        int levels = 0;
        for (int q = p; now.within[q] >= 0; q = now.within[q]) {
            levels++;
        }
        int[] all = {isle(p), now.within[p] < 0 ? -2 : now.within[p], now.lock[p] < 0 ? -2 : now.lock[p],
            now.wet[p] ? 1 : 0, now.flight[p] < 0 ? -2 : now.flight[p], keysIn(p), levels};
        return all[what];
    }

    long count(int what) {
        int places = 0;
        int eggBits = 0;
        for (int i = 0; i < 8; i++) {
            places += now.told[i] ? 1 << i : 0;
            eggBits += eggs[i] ? 1 << i : 0;
        }
        int[] all = {places, now.heart, clauses, tape.size(), now.x, now.night, now.dusted, now.said, eggBits};
        if (what >= 0 && what <= 8) {
            return all[what];
        }
        if (what >= 10 && what <= 17) {
            return now.keyAt[what - 10] < 0 ? -2 : now.keyAt[what - 10];
        }
        if (what >= 100 && what <= 115) {
            return now.ways[(what - 100) / 4][(what - 100) % 4];
        }
        return -1;
    }

    // ---- the tape

    long feed(int a, int b, int c, int d, int e) {
        if (tape.size() + 20 > 260) {
            return -1;
        }
        for (int v : new int[] {a, b, c, d, e}) {
            tape.add(v >>> 24);
            tape.add(v >>> 16 & 255);
            tape.add(v >>> 8 & 255);
            tape.add(v & 255);
        }
        return tape.size();
    }

    private String take(int n) {
        StringBuilder s = new StringBuilder();
        for (int i = 0; i < n; i++) {
            s.append((char) (int) tape.get(i));
        }
        tape.clear();
        return s.toString();
    }

    long check(int n) {
        if (n < 0 || n > 8 || tape.size() < 4 * n) {
            return -2;
        }
        String s = take(4 * n);
        for (int p = 0; p < n; p++) {
            long number = 0;
            for (int b = 0; b < 4; b++) {
                number = number * 256 + s.charAt(4 * p + b);
            }
            if (number != (told(p) ? isle(p) : 0)) {
                return p;
            }
        }
        return -1;
    }

    // ---- the seeker

    private static final String ACTS = "growsk";
    private static final int[] TOP = {3, 3, 7, 7, 7, 2};

    /** A seeker's state as a row of words: island, opened, keys, raven, wolf, salmon (0: has done nothing). */
    private int[] act(int[] at, int letter, int digit, Kept w) {
        int[] s = at.clone();
        int bit = 1 << digit;
        if (letter == 0) {
            if (digit == s[0] || w.ways[s[0]][digit] == 0) {
                return null;
            }
            s[0] = digit;
            return s;
        }
        if (letter == 1) {
            if (digit == s[0] || s[3] != 0) {
                return null;
            }
            s[0] = digit;
            s[3] = 1;
            return s;
        }
        if (letter == 5) {
            int inMouth = keysIn(8 + digit, w);
            if (s[3 + digit] != 0 || inMouth == 0) {
                return null;
            }
            s[3 + digit] = 1;
            s[2] |= inMouth;
            return s;
        }
        if (!w.told[digit] || (s[1] & bit) != 0 || isle(digit, w) != s[0]) {
            return null;
        }
        boolean enclosed = false;
        for (int q = w.within[digit]; q >= 0; q = w.within[q]) {
            enclosed |= (s[1] >> q & 1) == 0;
        }
        int lock = w.lock[digit];
        if (letter == 2 && (enclosed || (lock >= 0 && (s[2] >> lock & 1) == 0))) {
            return null;
        }
        if (letter == 3 && (enclosed || w.wet[digit] || s[4] != 0)) {
            return null;
        }
        if (letter == 4 && (!w.wet[digit] || s[5] != 0)) {
            return null;
        }
        s[4] |= letter == 3 ? 1 : 0;
        s[5] |= letter == 4 ? 1 : 0;
        s[1] |= bit;
        s[2] |= keysIn(digit, w);
        return s;
    }

    private static int keysIn(int where, Kept w) {
        int bits = 0;
        for (int k = 0; k < 8; k++) {
            bits |= w.keyAt[k] == where ? 1 << k : 0;
        }
        return bits;
    }

    private static int isle(int p, Kept w) {
        return w.within[p] < 0 ? w.island[p] : isle(w.within[p], w);
    }

    private static int days(int[] from, int letter, int digit, Kept w) {
        return letter == 0 ? w.ways[from[0]][digit] : letter == 5 ? 0 : 1;
    }

    private static boolean had(int[] s, Kept w) {
        for (int p = w.heart; p >= 0; p = w.flight[p]) {
            if ((s[1] >> p & 1) == 0) {
                return false;
            }
        }
        return true;
    }

    long tale(int n, int what) {
        if (n < 1 || n > 100 || what < 0 || what > 5 || tape.size() < n) {
            return -1;
        }
        String s = take(n);
        int acts = 0;
        int i = 0;
        while (true) {
            if (i >= n || ACTS.indexOf(s.charAt(i)) < 0) {
                return -1000 - i;
            }
            if (acts == 32) {
                return -4000 - i;
            }
            int letter = ACTS.indexOf(s.charAt(i));
            i++;
            if (i >= n || s.charAt(i) < '0' || s.charAt(i) > '9') {
                return -1000 - i;
            }
            if (s.charAt(i) - '0' > TOP[letter]) {
                return -3000 - i;
            }
            i++;
            acts++;
            if (i == n) {
                break;
            }
            if (s.charAt(i) != ',') {
                return -1000 - i;
            }
            i++;
        }
        int[] at = new int[6];
        int days = 0;
        int done = 0;
        for (String a : s.split(",")) {
            int letter = ACTS.indexOf(a.charAt(0));
            int digit = a.charAt(1) - '0';
            int[] next = act(at, letter, digit, now);
            if (next == null) {
                break;
            }
            days += days(at, letter, digit, now);
            at = next;
            done++;
        }
        int[] all = {done, days, at[1], at[2], at[0], had(at, now) ? 1 : 0};
        return all[what];
    }

    private record Way(int days, int second, String row, int[] at) implements Comparable<Way> {
        @Override
        public int compareTo(Way o) {
            if (days != o.days) {
                return Integer.compare(days, o.days);
            }
            return second != o.second ? Integer.compare(second, o.second) : row.compareTo(o.row);
        }
    }

    /** The best way by DAYS, ACTS and row, or (byPlaces) by DAYS and how many are OPENED; null: never. */
    private Way best(Kept w, boolean byPlaces) {
        PriorityQueue<Way> queue = new PriorityQueue<>();
        Map<String, Boolean> seen = new HashMap<>();
        queue.add(new Way(0, 0, "", new int[6]));
        while (!queue.isEmpty()) {
            Way way = queue.poll();
            if (seen.put(Arrays.toString(way.at), true) != null) {
                continue;
            }
            if (had(way.at, w)) {
                return way;
            }
            for (int letter = 0; letter < 6; letter++) {
                for (int digit = 0; digit <= TOP[letter]; digit++) {
                    int[] next = act(way.at, letter, digit, w);
                    if (next == null) {
                        continue;
                    }
                    int second = byPlaces ? Integer.bitCount(next[1]) : way.second + 1;
                    String row = byPlaces ? "" : way.row + letter + digit;
                    queue.add(new Way(way.days + days(way.at, letter, digit, w), second, row, next));
                }
            }
        }
        return null;
    }

    long soonest(int what) {
        if (what < 0 || what > 1 || !told(now.heart)) {
            return -1;
        }
        Way way = best(now, true);
        return way == null ? -2 : what == 0 ? way.days : way.second;
    }

    long plan(int what) {
        if (!told(now.heart)) {
            return -1;
        }
        Way way = best(now, false);
        if (way == null) {
            return -2;
        }
        int acts = way.row.length() / 2;
        if (what == -1) {
            return acts;
        }
        return what < 0 || what >= acts ? -3 : Integer.parseInt(way.row.substring(2 * what, 2 * what + 2));
    }

    long missed(int k) {
        if (k < 0 || k > 7 || !told(now.heart)) {
            return -1;
        }
        Way with = best(now, true);
        if (with == null) {
            return -3;
        }
        Kept w = now.copy();
        w.keyAt[k] = -1;
        Way without = best(w, true);
        return without == null ? -2 : without.days - with.days;
    }

    private static void permute(List<Integer> left, List<Integer> row, List<List<Integer>> into) {
        if (left.isEmpty()) {
            into.add(new ArrayList<>(row));
        }
        for (int i = 0; i < left.size(); i++) {
            List<Integer> rest = new ArrayList<>(left);
            row.add(rest.remove(i));
            permute(rest, row, into);
            row.remove(row.size() - 1);
        }
    }

    long hidden(int keys, int what) {
        List<Integer> hiders = new ArrayList<>();
        for (int k = 0; k < 8; k++) {
            if ((keys >> k & 1) == 1) {
                hiders.add(k);
            }
        }
        if (keys < 0 || keys > 255 || hiders.size() < 2 || hiders.size() > 4 || !told(now.heart)) {
            return -1;
        }
        for (int k : hiders) {
            if (now.keyAt[k] < 0 || now.keyAt[k] > 7) {
                return -1;
            }
        }
        if (what != 10 && what != 11 && !hiders.contains(what)) {
            return -1;
        }
        List<List<Integer>> rows = new ArrayList<>();
        permute(hiders, new ArrayList<>(), rows);
        int latest = -1;
        List<Integer> best = null;
        for (List<Integer> row : rows) {
            Kept w = now.copy();
            for (int i = 0; i < row.size(); i++) {
                w.keyAt[hiders.get(i)] = now.keyAt[row.get(i)];
            }
            Way way = best(w, true);
            if (way != null && way.days > latest) {
                latest = way.days;
                best = row;
            }
        }
        if (best == null) {
            return -2;
        }
        if (what < 10) {
            return best.get(hiders.indexOf(what));
        }
        if (what == 11) {
            int[] before = now.keyAt.clone();
            for (int i = 0; i < best.size(); i++) {
                now.keyAt[hiders.get(i)] = before[best.get(i)];
            }
        }
        return latest;
    }

    // ---- the law

    /** An automaton with a stack of what is open: K the E of a CLAUSE, ( [ !, L R the sides of a comparison. */
    private static int lawFault(String s) {
        StringBuilder open = new StringBuilder();
        String mode = "clause";
        int clause = 0;
        int digits = 0;
        for (int i = 0; i <= s.length(); i++) {
            char c = i < s.length() ? s.charAt(i) : (char) 0;
            if (mode.equals("end of clause")) {
                if (c == 0 && i == s.length()) {
                    return clause;
                }
                if (c != ';') {
                    return -1000 - i;
                }
                mode = "clause";
                continue;
            }
            if (mode.equals("clause")) {
                if (c != 'm' && c != 'l') {
                    return -1000 - i;
                }
                if (clause == 16) {
                    return -4000 - i;
                }
                clause++;
                open.append('K');
                mode = "factor";
                continue;
            }
            if (mode.equals("piece")) {
                if (c == '!' || c == '(') {
                    if (depth(open) == 6) {
                        return -5000 - i;
                    }
                    open.append(c);
                    continue;
                }
                open.append('L');
                mode = "factor";
            }
            if (mode.equals("factor")) {
                if (c == '[') {
                    if (depth(open) == 6) {
                        return -5000 - i;
                    }
                    open.append(c);
                } else if (c >= '0' && c <= '9') {
                    digits = 1;
                    mode = "behind factor";
                } else if (c != 0 && "nhidswkor".indexOf(c) >= 0) {
                    digits = 0;
                    mode = "behind factor";
                } else {
                    return -1000 - i;
                }
                continue;
            }
            char top = open.charAt(open.length() - 1);
            if (mode.equals("behind factor")) {
                if (digits > 0 && c >= '0' && c <= '9') {
                    digits++;
                    if (digits == 6) {
                        return -2000 - i;
                    }
                    continue;
                }
                digits = 0;
                if (c != 0 && "+-*/%".indexOf(c) >= 0) {
                    mode = "factor";
                    continue;
                }
                if (top == '[' && c == ']') {
                    open.setLength(open.length() - 1);
                    continue;
                }
                if (top == 'K' && c == '(') {
                    open.setLength(open.length() - 1);
                    open.append('(');
                    mode = "piece";
                    continue;
                }
                if (top == 'L' && (c == '<' || c == '>' || c == '=')) {
                    open.setCharAt(open.length() - 1, 'R');
                    mode = "factor";
                    continue;
                }
                if (top != 'R') {
                    return -1000 - i;
                }
                open.setLength(open.length() - 1);
                mode = "behind piece";
            }
            while (open.charAt(open.length() - 1) == '!') {
                open.setLength(open.length() - 1);
            }
            if (c == '&' || c == '|') {
                mode = "piece";
            } else if (c == ')') {
                open.setLength(open.length() - 1);
                mode = open.length() == 0 ? "end of clause" : "behind piece";
            } else {
                return -1000 - i;
            }
        }
        return -1000 - s.length();
    }

    private static int depth(StringBuilder open) {
        int deep = 0;
        for (int i = 0; i < open.length(); i++) {
            deep += "([!".indexOf(open.charAt(i)) >= 0 ? 1 : 0;
        }
        return deep;
    }

    long law(int n) {
        if (n < 1 || n > 240 || tape.size() < n) {
            return -1;
        }
        String s = take(n);
        int answer = lawFault(s);
        if (answer > 0) {
            lawText = s;
            clauses = answer;
        }
        return answer;
    }

    /** Cuts at a sign of these that stands outside all ( and [; the last one, or all of them. */
    private static List<String> cut(String s, String signs) {
        List<String> parts = new ArrayList<>();
        int deep = 0;
        int from = 0;
        for (int i = 0; i < s.length(); i++) {
            char c = s.charAt(i);
            deep += c == '(' || c == '[' ? 1 : c == ')' || c == ']' ? -1 : 0;
            if (deep == 0 && signs.indexOf(c) >= 0) {
                parts.add(s.substring(from, i));
                parts.add(s.substring(i, i + 1));
                from = i + 1;
            }
        }
        parts.add(s.substring(from));
        return parts;
    }

    private static int worth(String e, Map<Character, Integer> letters) {
        List<String> terms = cut(e, "+-");
        int sum = term(terms.get(0), letters);
        for (int i = 1; i < terms.size(); i += 2) {
            int t = term(terms.get(i + 1), letters);
            sum = terms.get(i).equals("+") ? sum + t : sum - t;
        }
        return sum;
    }

    private static int term(String t, Map<Character, Integer> letters) {
        List<String> factors = cut(t, "*/%");
        int product = factor(factors.get(0), letters);
        for (int i = 1; i < factors.size(); i += 2) {
            int f = factor(factors.get(i + 1), letters);
            switch (factors.get(i)) {
                case "*": product *= f; break;
                case "/": product /= f; break;
                default: product %= f; break;
            }
        }
        return product;
    }

    private static int factor(String f, Map<Character, Integer> letters) {
        if (f.charAt(0) == '[') {
            return worth(f.substring(1, f.length() - 1), letters);
        }
        return letters.containsKey(f.charAt(0)) ? letters.get(f.charAt(0)) : Integer.parseInt(f);
    }

    private static boolean holds(String c, Map<Character, Integer> letters) {
        List<String> parts = cut(c, "|");
        for (int i = 0; i < parts.size(); i += 2) {
            List<String> pieces = cut(parts.get(i), "&");
            boolean all = true;
            for (int j = 0; j < pieces.size() && all; j += 2) {
                all = piece(pieces.get(j), letters);
            }
            if (all) {
                return true;
            }
        }
        return false;
    }

    private static boolean piece(String p, Map<Character, Integer> letters) {
        if (p.charAt(0) == '!') {
            return !piece(p.substring(1), letters);
        }
        if (p.charAt(0) == '(') {
            return holds(p.substring(1, p.length() - 1), letters);
        }
        List<String> sides = cut(p, "<>=");
        int left = worth(sides.get(0), letters);
        int right = worth(sides.get(2), letters);
        return sides.get(1).equals("<") ? left < right : sides.get(1).equals(">") ? left > right : left == right;
    }

    /** The PLACE by the first CLAUSE of the letter whose C holds, if it is a told one; else where it is. */
    private int asked(char letter, Kept w, int n, int h, int d, int s, int r) {
        Map<Character, Integer> letters = new TreeMap<>();
        letters.put('n', n);
        letters.put('h', h);
        letters.put('i', isle(h, w));
        letters.put('d', d);
        letters.put('s', s);
        letters.put('w', w.wet[h] ? 1 : 0);
        letters.put('k', w.lock[h] < 0 ? 0 : 1);
        int inside = 0;
        for (int q = 0; q < 8; q++) {
            inside += w.told[q] && w.within[q] == h ? 1 : 0;
        }
        letters.put('o', inside);
        letters.put('r', r);
        for (String clause : lawText.isEmpty() ? new String[0] : lawText.split(";")) {
            int open = clause.indexOf('(');
            if (clause.charAt(0) != letter) {
                continue;
            }
            boolean is;
            try {
                is = holds(clause.substring(open + 1, clause.length() - 1), letters);
            } catch (ArithmeticException e) {
                is = false;
            }
            if (is) {
                int to;
                try {
                    to = worth(clause.substring(1, open), letters);
                } catch (ArithmeticException e) {
                    to = 0;
                }
                return to >= 0 && to <= 7 && w.told[to] ? to : h;
            }
        }
        return h;
    }

    /** A NIGHT: where THE HEART is then, and what he SAYS. */
    private int[] pass(int n, int h, int d, int s, int r) {
        int to = asked('m', now, n, h, d, s, r);
        return new int[] {to, asked('l', now, n, to, d, s, r)};
    }

    long night(int dusted) {
        if (dusted < 0 || dusted > 8 || !told(now.heart) || now.night == 9999) {
            return -1;
        }
        now.x = (25173 * now.x + 13849) & 65535;
        int[] to = pass(now.night, now.heart, dusted, now.said, now.x % 10);
        now.heart = to[0];
        now.said = to[1];
        now.dusted = dusted;
        now.night++;
        return now.said;
    }

    long tried(int n, int what) {
        if (n < 1 || n > 20 || what < 0 || what > 3 || !told(now.heart) || now.night + n > 9999) {
            return -1;
        }
        Kept before = now.copy();
        int truths = 0;
        int moves = 0;
        for (int i = 0; i < n; i++) {
            int was = now.heart;
            night(now.said);
            truths += now.said == now.heart ? 1 : 0;
            moves += now.heart != was ? 1 : 0;
        }
        int[] all = {now.heart, now.said, truths, moves};
        now = before;
        return all[what];
    }

    // ---- stories

    /** The nights of a STORY (DUSTED, SAID, ..), or its FAULT alone. */
    private static int[] nights(String s) {
        int many = 0;
        int[] all = new int[24];
        for (int i = 0; ; i++) {
            boolean can = i < s.length() && (s.charAt(i) == '.' || (s.charAt(i) >= '0' && s.charAt(i) <= '7'));
            if (!can) {
                return new int[] {-1000 - i};
            }
            if (many == 12) {
                return new int[] {-4000 - i};
            }
            i++;
            if (i >= s.length() || s.charAt(i) < '0' || s.charAt(i) > '7') {
                return new int[] {-1000 - i};
            }
            all[2 * many] = s.charAt(i - 1) == '.' ? 8 : s.charAt(i - 1) - '0';
            all[2 * many + 1] = s.charAt(i) - '0';
            many++;
            i++;
            if (i == s.length()) {
                return Arrays.copyOf(all, 2 * many);
            }
            if (s.charAt(i) != ',') {
                return new int[] {-1000 - i};
            }
        }
    }

    private long[] weights(int[] nights, int places) {
        long[] weight = new long[8];
        for (int p = 0; p < 8; p++) {
            weight[p] = places >> p & 1;
        }
        int said = now.said;
        for (int t = 0; t < nights.length / 2; t++) {
            long[] next = new long[8];
            for (int p = 0; p < 8; p++) {
                for (int r = 0; r < 10 && weight[p] > 0; r++) {
                    int[] to = pass(now.night + t, p, nights[2 * t], said, r);
                    next[to[0]] += to[1] == nights[2 * t + 1] ? weight[p] : 0;
                }
            }
            weight = next;
            said = nights[2 * t + 1];
        }
        return weight;
    }

    private boolean areTold(int places) {
        for (int p = 0; p < 8; p++) {
            if ((places >> p & 1) == 1 && !now.told[p]) {
                return false;
            }
        }
        return places > 0 && places < 256;
    }

    private static long part(long above, long below, boolean wantAbove) {
        java.math.BigInteger g = java.math.BigInteger.valueOf(above).gcd(java.math.BigInteger.valueOf(below));
        return (wantAbove ? above : below) / g.longValue();
    }

    long story(int n, int places, int what) {
        if (n < 1 || n > 60 || tape.size() < n) {
            return -1;
        }
        int[] nights = nights(take(n));
        if (nights.length == 1) {
            return nights[0];
        }
        if (what < 0 || what > 16 || !areTold(places)) {
            return -3;
        }
        long[] weight = weights(nights, places);
        long sum = 0;
        int can = 0;
        for (long w : weight) {
            sum += w;
            can += w > 0 ? 1 : 0;
        }
        if (sum == 0) {
            return -2;
        }
        return what == 16 ? can : part(weight[what % 8], sum, what < 8);
    }

    long toDust(int n, int places, int what) {
        if (n < 1 || n > 60 || tape.size() < n) {
            return -1;
        }
        int[] nights = nights(take(n));
        if (nights.length == 1) {
            return nights[0];
        }
        if (what < 0 || what > 2 || !areTold(places)) {
            return -3;
        }
        long[] weight = weights(nights, places);
        long sum = 0;
        for (long w : weight) {
            sum += 10 * w;
        }
        if (sum == 0) {
            return -2;
        }
        long most = -1;
        int best = -1;
        for (int d = 0; d <= 8; d++) {
            long[][] by = new long[8][8];
            for (int p = 0; p < 8; p++) {
                for (int r = 0; r < 10 && weight[p] > 0; r++) {
                    int[] to = pass(now.night + nights.length / 2, p, d, nights[nights.length - 1], r);
                    by[to[1]][to[0]] += weight[p];
                }
            }
            long guessed = 0;
            for (long[] row : by) {
                guessed += Arrays.stream(row).max().getAsLong();
            }
            if (guessed > most) {
                most = guessed;
                best = d;
            }
        }
        return what == 0 ? best : part(most, sum, what == 1);
    }

    // ---- lots, eggs, the wood

    long lots(int n, int what) {
        boolean is = what == 0 || what == 1 || (what >= 10 && what < 10 + n) || (what >= 20 && what < 20 + n);
        if (n < 1 || n > 6 || !is || tape.size() < n) {
            return -1;
        }
        String s = take(n);
        long all = 1;
        for (int i = 0; i < n; i++) {
            if (s.charAt(i) < 1 || s.charAt(i) > 99) {
                return -2;
            }
            all *= s.charAt(i);
        }
        long sum = 0;
        for (int i = 0; i < n; i++) {
            sum += all / s.charAt(i);
        }
        if (what < 2) {
            return part(all, sum, what == 0);
        }
        return part(all / s.charAt(what % 10), sum, what < 20);
    }

    long egg(int i, boolean is) {
        if (i < 0 || i > 7 || eggs[i] == is) {
            return 0;
        }
        eggs[i] = is;
        return 1;
    }

    long test(int t, int bits) {
        if (t < 0 || t > 5 || bits < 0 || bits > 255) {
            return 0;
        }
        tests[t] = bits;
        return 1;
    }

    private String shown(int egg, int bits) {
        StringBuilder s = new StringBuilder();
        for (int t = 0; t < 6; t++) {
            if ((bits >> t & 1) == 1) {
                s.append(tests[t] >> egg & 1);
            }
        }
        return s.toString();
    }

    long apart(int what) {
        if (what != 0 && what != 1) {
            return -1;
        }
        for (int many = 0; many <= 6; many++) {
            for (int bits = 0; bits < 64; bits++) {
                if (Integer.bitCount(bits) != many) {
                    continue;
                }
                Map<String, Integer> seen = new HashMap<>();
                int told = 0;
                for (int i = 0; i < 8; i++) {
                    if (eggs[i]) {
                        told++;
                        seen.put(shown(i, bits), i);
                    }
                }
                if (seen.size() == told) {
                    return what == 0 ? many : bits;
                }
            }
        }
        return -2;
    }

    long alike(int i, int bits) {
        if (i < 0 || i > 7 || !eggs[i] || bits < 0 || bits > 63) {
            return -1;
        }
        int all = 0;
        for (int j = 0; j < 8; j++) {
            all += eggs[j] && shown(j, bits).equals(shown(i, bits)) ? 1 << j : 0;
        }
        return all;
    }

    long owes(int i, int j) {
        if (i < 0 || i > 11 || j < -1 || j > 11 || i == j) {
            return 0;
        }
        owed[i] = j;
        return 1;
    }

    private List<Integer> ring(int i) {
        List<Integer> row = new ArrayList<>();
        int at = i;
        while (at >= 0 && !row.contains(at)) {
            row.add(at);
            at = owed[at];
        }
        return at == i ? row : new ArrayList<>();
    }

    long rings(int i, int what) {
        if (what < 0 || what > 4 || (what > 2 && (i < 0 || i > 11))) {
            return -1;
        }
        java.util.Set<java.util.Set<Integer>> all = new java.util.HashSet<>();
        int in = 0;
        int longest = 0;
        for (int b = 0; b < 12; b++) {
            List<Integer> ring = ring(b);
            if (!ring.isEmpty()) {
                all.add(new java.util.TreeSet<>(ring));
                in++;
                longest = Math.max(longest, ring.size());
            }
        }
        if (what < 3) {
            return new int[] {all.size(), in, longest}[what];
        }
        int steps = 0;
        int at = i;
        while (ring(at).isEmpty() && owed[at] >= 0) {
            at = owed[at];
            steps++;
        }
        return what == 3 ? steps : ring(at).isEmpty() ? 0 : 1;
    }
}
