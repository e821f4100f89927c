/** What each call answers stands in the document's promises; README.md tells how the parts lie. */
public final class GiantHeart {
    public static final int NONE = -1;

    private static final int ISLANDS = 4;
    private static final int PLACES = 8;
    private static final int KEYS = 8;
    private static final int BEASTS = 3;
    private static final int NOTHING = 8;
    private static final int DAYS_MOST = 30;
    private static final int NIGHT_LAST = 9999;
    private static final int STORY_NIGHTS = 12;
    private static final int DRAWS = 10;

    private final World world;
    private final World kept;
    private boolean isKept;
    private final Tape tape;
    private final Law law;
    private final Law draft;
    private final Seeker seeker;
    private final Tale tales;
    private final Planner planner;
    private final Nights nights;
    private final Stories stories;
    private final Lots shares;
    private final Eggs eggs;
    private final Wood wood;

    public GiantHeart() {
        World ownWorld = new World();
        Law ownLaw = new Law();
        Seeker ownSeeker = new Seeker(ownWorld);
        Nights ownNights = new Nights(ownWorld, ownLaw);
        world = ownWorld;
        kept = new World();
        isKept = false;
        tape = new Tape();
        law = ownLaw;
        draft = new Law();
        seeker = ownSeeker;
        tales = new Tale();
        planner = new Planner(ownSeeker);
        nights = ownNights;
        stories = new Stories(ownWorld, ownLaw, ownNights);
        shares = new Lots();
        eggs = new Eggs();
        wood = new Wood();
    }

    public boolean way(int a, int b, int days) {
        if (!isBelow(a, ISLANDS) || !isBelow(b, ISLANDS) || a == b || !isBelow(days, DAYS_MOST + 1)) {
            return false;
        }
        world.ways[ISLANDS * a + b] = days;
        world.ways[ISLANDS * b + a] = days;
        return true;
    }

    public boolean place(int p, int island, int within, int lock) {
        if (!isBelow(p, PLACES) || (lock != NONE && !isBelow(lock, KEYS))) {
            return false;
        }
        if (within == NONE ? !isBelow(island, ISLANDS) : !world.isTold(within) || within >= p) {
            return false;
        }
        world.tell(p, within == NONE ? island : 0, within, lock);
        return true;
    }

    public boolean more(int p, boolean wet, int flight) {
        if (!world.isTold(p) || (flight != NONE && (!world.isTold(flight) || flight <= p))) {
            return false;
        }
        world.wet = wet ? world.wet | 1 << p : world.wet & ~(1 << p);
        world.flight[p] = flight;
        return true;
    }

    public boolean key(int k, int where) {
        boolean isBeast = where >= PLACES && where < PLACES + BEASTS;
        if (!isBelow(k, KEYS) || (where != NONE && !isBeast && !world.isTold(where))) {
            return false;
        }
        world.keyAt[k] = where;
        return true;
    }

    public boolean heart(int p) {
        if (!world.isTold(p)) {
            return false;
        }
        world.heart = p;
        return true;
    }

    public int feed(int a, int b, int c, int d, int e) {
        if (!tape.hasRoom(20)) {
            return NONE;
        }
        tape.append(a);
        tape.append(b);
        tape.append(c);
        tape.append(d);
        tape.append(e);
        return tape.size;
    }

    public int law(int n) {
        if (n < 1 || n > Law.LONGEST || !tape.take(n)) {
            return NONE;
        }
        // A FAULT leaves the law before as it is, so the text is read into a law of its own first.
        int answer = draft.read(tape);
        if (answer > 0) {
            law.takeOver(draft);
        }
        return answer;
    }

    public int tale(int n, int what) {
        if (n < 1 || n > Tale.LONGEST || !isBelow(what, 6) || !tape.take(n)) {
            return NONE;
        }
        int fault = tales.read(tape);
        return fault != 0 ? fault : tales.judged(seeker, what);
    }

    public int soonest(int what) {
        if (!isBelow(what, 2) || !heartIsTold()) {
            return NONE;
        }
        seeker.learn();
        if (!planner.search(false)) {
            return -2;
        }
        return what == 0 ? planner.days() : planner.rest();
    }

    public int plan(int what) {
        if (!heartIsTold()) {
            return NONE;
        }
        seeker.learn();
        if (!planner.search(true)) {
            return -2;
        }
        int acts = planner.write();
        if (what == NONE) {
            return acts;
        }
        return isBelow(what, acts) ? planner.actAt(what) : -3;
    }

    public int missed(int k) {
        if (!isBelow(k, KEYS) || !heartIsTold()) {
            return NONE;
        }
        seeker.learn();
        if (!planner.search(false)) {
            return -3;
        }
        int days = planner.days();
        seeker.putKey(k, NONE);
        return planner.search(false) ? planner.days() - days : -2;
    }

    public int hidden(int keys, int what) {
        if (!heartIsTold() || !world.areInPlaces(keys)) {
            return NONE;
        }
        boolean isKey = isBelow(what, KEYS) && (keys >> what & 1) == 1;
        if (what != 10 && what != 11 && !isKey) {
            return NONE;
        }
        int days = planner.hide(world, keys);
        if (days == NONE) {
            return -2;
        }
        if (isKey) {
            return planner.placeOfWhich(what);
        }
        if (what == 11) {
            planner.putSo(world);
        }
        return days;
    }

    public int night(int dusted) {
        if (!isBelow(dusted, NOTHING + 1) || !heartIsTold() || world.night >= NIGHT_LAST) {
            return NONE;
        }
        nights.begin();
        nights.pass(dusted);
        world.heart = nights.heart;
        world.night = nights.night;
        world.dusted = dusted;
        world.said = nights.said;
        world.x = nights.x;
        return world.said;
    }

    public int tried(int n, int what) {
        if (n < 1 || n > 20 || !isBelow(what, 4) || !heartIsTold() || world.night > NIGHT_LAST - n) {
            return NONE;
        }
        return nights.trial(n, what);
    }

    public long story(int n, int places, int what) {
        int refusal = refusedStory(n, places, isBelow(what, 17));
        return refusal != 0 ? refusal : stories.odds(places, what);
    }

    public long toDust(int n, int places, int what) {
        int refusal = refusedStory(n, places, isBelow(what, 3));
        return refusal != 0 ? refusal : stories.bestDust(places, what);
    }

    public long lots(int n, int what) {
        boolean isShare = (what >= 10 && what < 10 + n) || (what >= 20 && what < 20 + n);
        if (n < 1 || n > Lots.MOST || (!isBelow(what, 2) && !isShare) || !tape.take(n)) {
            return NONE;
        }
        return shares.read(tape, n) ? shares.answer(what) : -2;
    }

    public boolean egg(int i, boolean is) {
        return eggs.tell(i, is);
    }

    public boolean test(int t, int bits) {
        return eggs.show(t, bits);
    }

    public int apart(int what) {
        return isBelow(what, 2) ? eggs.fewestTests(what) : NONE;
    }

    public int alike(int i, int tests) {
        return eggs.sameAs(i, tests);
    }

    public boolean owes(int i, int j) {
        return wood.owe(i, j);
    }

    public int rings(int i, int what) {
        return wood.answer(i, what);
    }

    public int placeIs(int p, int what) {
        return world.isTold(p) ? world.ofPlace(p, what) : NONE;
    }

    public boolean seed(int x) {
        if (!isBelow(x, 65536)) {
            return false;
        }
        world.x = x;
        return true;
    }

    public int keep() {
        kept.takeOver(world);
        isKept = true;
        return Integer.bitCount(world.told);
    }

    public boolean undo() {
        if (isKept) {
            world.takeOver(kept);
        }
        return isKept;
    }

    public int check(int n) {
        if (!isBelow(n, PLACES + 1) || !tape.take(4 * n)) {
            return -2;
        }
        for (int p = 0; p < n; p++) {
            int island = world.isTold(p) ? world.islandOf(p) : 0;
            if (tape.number(4 * p) != island) {
                return p;
            }
        }
        return NONE;
    }

    public int count(int what) {
        if (what >= 10 && what < 10 + KEYS) {
            int where = world.keyAt[what - 10];
            return where == NONE ? -2 : where;
        }
        if (what >= 100 && what < 100 + ISLANDS * ISLANDS) {
            return world.ways[what - 100];
        }
        switch (what) {
            case 0: return world.told;
            case 1: return world.heart;
            case 2: return law.clauses;
            case 3: return tape.size;
            case 4: return world.x;
            case 5: return world.night;
            case 6: return world.dusted;
            case 7: return world.said;
            case 8: return eggs.told;
            default: return NONE;
        }
    }

    private boolean heartIsTold() {
        return world.isTold(world.heart);
    }

    /** 0, or why a STORY from these PLACES is not answered. */
    private int refusedStory(int n, int places, boolean isAsked) {
        if (n < 1 || n > Stories.LONGEST || !tape.take(n)) {
            return NONE;
        }
        // The document tells "the tape stays" ahead of THE NIGHT, so this refusal empties the tape.
        if (world.night > NIGHT_LAST - STORY_NIGHTS) {
            return NONE;
        }
        int fault = stories.read(tape);
        if (fault != 0) {
            return fault;
        }
        boolean areTold = places > 0 && (places & ~world.told) == 0;
        return isAsked && areTold ? 0 : -3;
    }

    private static boolean isBelow(int value, int bound) {
        return value >= 0 && value < bound;
    }

    private static int fault(int number, int at) {
        return -1000 * number - at;
    }

    private static long commonDivisor(long a, long b) {
        long x = a;
        long y = b;
        for (int i = 0; i < 1000 && y != 0; i++) {
            long rest = x % y;
            x = y;
            y = rest;
        }
        return x > 0 ? x : 1;
    }

    /** All that is KEPT and UNDONE. */
    static final class World {
        final int[] ways = new int[ISLANDS * ISLANDS];
        final int[] island = new int[PLACES];
        final int[] within = new int[PLACES];
        final int[] lock = new int[PLACES];
        final int[] flight = new int[PLACES];
        final int[] keyAt = new int[KEYS];
        int told;
        int wet;
        int heart;
        int night;
        int dusted = NOTHING;
        int said = NOTHING;
        int x = 1;

        World() {
            for (int p = 0; p < PLACES; p++) {
                within[p] = NONE;
                lock[p] = NONE;
                flight[p] = NONE;
            }
            for (int k = 0; k < KEYS; k++) {
                keyAt[k] = NONE;
            }
        }

        void takeOver(World other) {
            System.arraycopy(other.ways, 0, ways, 0, ISLANDS * ISLANDS);
            System.arraycopy(other.island, 0, island, 0, PLACES);
            System.arraycopy(other.within, 0, within, 0, PLACES);
            System.arraycopy(other.lock, 0, lock, 0, PLACES);
            System.arraycopy(other.flight, 0, flight, 0, PLACES);
            System.arraycopy(other.keyAt, 0, keyAt, 0, KEYS);
            told = other.told;
            wet = other.wet;
            heart = other.heart;
            night = other.night;
            dusted = other.dusted;
            said = other.said;
            x = other.x;
        }

        boolean isTold(int p) {
            return isBelow(p, PLACES) && (told >> p & 1) == 1;
        }

        boolean isWet(int p) {
            return isBelow(p, PLACES) && (wet >> p & 1) == 1;
        }

        void tell(int p, int isle, int outer, int key) {
            if (!isBelow(p, PLACES)) {
                return;
            }
            told |= 1 << p;
            wet &= ~(1 << p);
            island[p] = isle;
            within[p] = outer;
            lock[p] = key;
            flight[p] = NONE;
        }

        /** The PLACES that it is within, on any level, as bits. */
        int around(int p) {
            int bits = 0;
            int at = p;
            for (int level = 0; level < PLACES && isBelow(at, PLACES); level++) {
                at = within[at];
                bits |= isBelow(at, PLACES) ? 1 << at : 0;
            }
            return bits;
        }

        /** Asked of the outermost PLACE, since that may have come to another ISLAND since. */
        int islandOf(int p) {
            int at = p;
            for (int level = 0; level < PLACES; level++) {
                if (!isBelow(at, PLACES)) {
                    return 0;
                }
                if (within[at] == NONE) {
                    return island[at];
                }
                at = within[at];
            }
            return 0;
        }

        int placesIn(int p) {
            int many = 0;
            for (int inner = 0; inner < PLACES; inner++) {
                many += (told >> inner & 1) == 1 && within[inner] == p ? 1 : 0;
            }
            return many;
        }

        int keysIn(int p) {
            int bits = 0;
            for (int k = 0; k < KEYS; k++) {
                bits |= keyAt[k] == p ? 1 << k : 0;
            }
            return bits;
        }

        /** Whether these are two to four KEYS, each in a PLACE. */
        boolean areInPlaces(int keys) {
            int many = Integer.bitCount(keys);
            if (!isBelow(keys, 1 << KEYS) || many < 2 || many > 4) {
                return false;
            }
            for (int k = 0; k < KEYS; k++) {
                if ((keys >> k & 1) == 1 && !isTold(keyAt[k])) {
                    return false;
                }
            }
            return true;
        }

        int ofPlace(int p, int what) {
            if (!isBelow(p, PLACES)) {
                return NONE;
            }
            switch (what) {
                case 0: return islandOf(p);
                case 1: return within[p] == NONE ? -2 : within[p];
                case 2: return lock[p] == NONE ? -2 : lock[p];
                case 3: return isWet(p) ? 1 : 0;
                case 4: return flight[p] == NONE ? -2 : flight[p];
                case 5: return keysIn(p);
                case 6: return Integer.bitCount(around(p));
                default: return NONE;
            }
        }
    }

    /** The bytes fed, and the text taken from their front. */
    static final class Tape {
        static final int MOST = 260;
        private final int[] bytes = new int[MOST];
        int size;
        int length;

        boolean hasRoom(int more) {
            return size + more <= MOST;
        }

        void append(int word) {
            if (!hasRoom(4)) {
                return;
            }
            for (int shift = 24; shift >= 0; shift -= 8) {
                bytes[size] = word >> shift & 255;
                size++;
            }
        }

        /** The tape is empty behind it; the text can be read until the next feed. */
        boolean take(int n) {
            if (n < 0 || n > size) {
                return false;
            }
            length = n;
            size = 0;
            return true;
        }

        /** The text's byte; NONE at its end. */
        int at(int i) {
            return i >= 0 && i < length && i < MOST ? bytes[i] : NONE;
        }

        int number(int i) {
            return at(i) << 24 | at(i + 1) << 16 | at(i + 2) << 8 | at(i + 3);
        }
    }

    /**
     * THE LAW: its text made into steps for a stack, since a STORY asks it some thousand times.
     * A step's sign is the sign of the text that it stands for; a number and a letter have signs of their own.
     */
    static final class Law {
        static final int LONGEST = 240;
        private static final int CLAUSES = 16;
        private static final int DEEPEST = 6;
        private static final int NUMBER_LONGEST = 5;
        private static final int STACK = 64;
        private static final int NUMBER = '#';
        private static final int LETTER = '?';
        private static final String LETTERS = "nhidswkor";

        private final int[] signs = new int[LONGEST];
        private final int[] values = new int[LONGEST];
        private int steps;
        private final int[] kinds = new int[CLAUSES];
        private final int[] starts = new int[CLAUSES];
        private final int[] conditions = new int[CLAUSES];
        private final int[] ends = new int[CLAUSES];
        int clauses;
        boolean asksDraw;
        private final int[] text = new int[LONGEST];
        private int length;
        private int at;
        private int fault;
        private final int[] stack = new int[STACK];

        void takeOver(Law other) {
            System.arraycopy(other.signs, 0, signs, 0, LONGEST);
            System.arraycopy(other.values, 0, values, 0, LONGEST);
            System.arraycopy(other.kinds, 0, kinds, 0, CLAUSES);
            System.arraycopy(other.starts, 0, starts, 0, CLAUSES);
            System.arraycopy(other.conditions, 0, conditions, 0, CLAUSES);
            System.arraycopy(other.ends, 0, ends, 0, CLAUSES);
            clauses = other.clauses;
            asksDraw = other.asksDraw;
        }

        /** How many CLAUSES, or a FAULT. */
        int read(Tape tape) {
            length = Math.min(tape.length, LONGEST);
            for (int i = 0; i < length; i++) {
                text[i] = tape.at(i);
            }
            at = 0;
            steps = 0;
            clauses = 0;
            asksDraw = false;
            for (int i = 0; i <= CLAUSES; i++) {
                if (!readClause()) {
                    return fault;
                }
                if (at == length) {
                    return clauses;
                }
                if (!readSign(';')) {
                    return fault;
                }
            }
            return fault;
        }

        private boolean readClause() {
            int kind = here();
            if (kind != 'm' && kind != 'l') {
                return wrong(1);
            }
            if (clauses >= CLAUSES) {
                return wrong(4);
            }
            kinds[clauses] = kind;
            starts[clauses] = steps;
            at++;
            if (!readSum(0)) {
                return false;
            }
            conditions[clauses] = steps;
            if (!readSign('(') || !readCondition(1) || !readSign(')')) {
                return false;
            }
            ends[clauses] = steps;
            clauses++;
            return true;
        }

        /** The byte that is read next; NONE at the end. */
        private int here() {
            return at >= 0 && at < length && at < LONGEST ? text[at] : NONE;
        }

        private boolean wrong(int number) {
            fault = -1000 * number - at;
            return false;
        }

        private boolean readSign(int sign) {
            boolean isThere = at >= 0 && at < length && at < LONGEST && text[at] == sign;
            fault = -1000 - at;
            at += isThere ? 1 : 0;
            return isThere;
        }

        /** A step behind the others; its place. */
        private int put(int sign, int value) {
            if (steps < 0 || steps >= LONGEST) {
                return NONE;
            }
            signs[steps] = sign;
            values[steps] = value;
            steps++;
            return steps - 1;
        }

        /** The leaps of one chain (each holds the place of the one before it) lead to the next step. */
        private void leadHere(int chain) {
            int leap = chain;
            for (int i = 0; i < LONGEST && leap >= 0 && leap < LONGEST; i++) {
                int before = values[leap];
                values[leap] = steps;
                leap = before;
            }
        }

        private boolean readCondition(int depth) {
            int outOfAll = NONE;
            int outOfPart = NONE;
            for (int i = 0; i < LONGEST; i++) {
                if (!readPiece(depth)) {
                    return false;
                }
                int sign = here();
                if (sign == '&') {
                    outOfPart = put('&', outOfPart);
                    at++;
                    continue;
                }
                leadHere(outOfPart);
                outOfPart = NONE;
                if (sign != '|') {
                    break;
                }
                outOfAll = put('|', outOfAll);
                at++;
            }
            leadHere(outOfAll);
            return true;
        }

        private boolean readPiece(int depth) {
            int sign = here();
            if (sign == '!' || sign == '(') {
                if (depth >= DEEPEST) {
                    return wrong(5);
                }
                at++;
                if (sign == '(') {
                    return readCondition(depth + 1) && readSign(')');
                }
                if (!readPiece(depth + 1)) {
                    return false;
                }
                put('!', 0);
                return true;
            }
            if (!readSum(depth)) {
                return false;
            }
            int comparing = here();
            if (comparing != '<' && comparing != '>' && comparing != '=') {
                return wrong(1);
            }
            at++;
            if (!readSum(depth)) {
                return false;
            }
            put(comparing, 0);
            return true;
        }

        /** An E: what joins two FACTORS is put at once, what joins two TERMS waits for the end of the right one. */
        private boolean readSum(int depth) {
            int joining = NONE;
            int waiting = NONE;
            for (int i = 0; i < LONGEST; i++) {
                if (!readFactor(depth)) {
                    return false;
                }
                if (joining != NONE) {
                    put(joining, 0);
                }
                int sign = here();
                joining = sign == '*' || sign == '/' || sign == '%' ? sign : NONE;
                if (joining == NONE) {
                    if (waiting != NONE) {
                        put(waiting, 0);
                    }
                    if (sign != '+' && sign != '-') {
                        return true;
                    }
                    waiting = sign;
                }
                at++;
            }
            return true;
        }

        private boolean readFactor(int depth) {
            int sign = here();
            if (sign == '[') {
                if (depth >= DEEPEST) {
                    return wrong(5);
                }
                at++;
                return readSum(depth + 1) && readSign(']');
            }
            int letter = sign < 0 ? NONE : LETTERS.indexOf((char) sign);
            if (letter >= 0) {
                put(LETTER, letter);
                asksDraw = asksDraw || letter == Nights.DRAW;
                at++;
                return true;
            }
            int number = 0;
            int digits = 0;
            for (; sign >= '0' && sign <= '9' && digits <= NUMBER_LONGEST; sign = here()) {
                if (digits == NUMBER_LONGEST) {
                    return wrong(2);
                }
                number = 10 * number + sign - '0';
                digits++;
                at++;
            }
            if (digits == 0) {
                return wrong(1);
            }
            put(NUMBER, number);
            return true;
        }

        /** The E of the first CLAUSE of this letter whose C holds; NONE, which is no PLACE either, if none does. */
        int ask(int kind, int[] letters) {
            for (int c = 0; c < clauses && c < CLAUSES; c++) {
                if (kinds[c] == kind && run(conditions[c], ends[c], letters) != 0) {
                    return run(starts[c], conditions[c], letters);
                }
            }
            return NONE;
        }

        /** What the steps come to; 0 if REFUSED, which is an E's worth then and a C that does not hold. */
        private int run(int from, int to, int[] letters) {
            int many = 0;
            int now = from;
            for (int i = 0; i < LONGEST && now >= 0 && now < to && now < LONGEST; i++) {
                int sign = signs[now];
                int value = values[now];
                now++;
                if (sign == NUMBER || sign == LETTER) {
                    if (many >= STACK || (sign == LETTER && (value < 0 || value >= letters.length))) {
                        return 0;
                    }
                    stack[many] = sign == NUMBER ? value : letters[value];
                    many++;
                    continue;
                }
                boolean isOfOne = sign == '!' || sign == '&' || sign == '|';
                if (many < (isOfOne ? 1 : 2)) {
                    return 0;
                }
                int last = stack[many - 1];
                if (sign == '!') {
                    stack[many - 1] = 1 - last;
                } else if (isOfOne && (last == 1) == (sign == '|')) {
                    // Settled: it stays on the stack, and what is behind it isn't asked.
                    now = value;
                } else if (isOfOne) {
                    many--;
                } else if (last == 0 && (sign == '/' || sign == '%')) {
                    return 0;
                } else {
                    stack[many - 2] = reckoned(sign, stack[many - 2], last);
                    many--;
                }
            }
            return many > 0 && many <= STACK ? stack[many - 1] : 0;
        }

        private static int reckoned(int sign, int left, int right) {
            switch (sign) {
                case '+': return left + right;
                case '-': return left - right;
                case '*': return left * right;
                case '/': return right == 0 ? 0 : left / right;
                case '%': return right == 0 ? 0 : left % right;
                case '<': return left < right ? 1 : 0;
                case '>': return left > right ? 1 : 0;
                default: return left == right ? 1 : 0;
            }
        }
    }

    /** NIGHTS that run one behind another, apart from the world till they are taken as true. */
    static final class Nights {
        static final int DRAW = 8;
        private final World world;
        private final Law law;
        private final int[] letters = new int[9];
        int heart;
        int night;
        int said;
        int x;

        Nights(World world, Law law) {
            this.world = world;
            this.law = law;
        }

        void begin() {
            heart = world.heart;
            night = world.night;
            said = world.said;
            x = world.x;
        }

        void pass(int dusted) {
            x = (25173 * x + 13849) % 65536;
            passFrom(heart, dusted, x % DRAWS);
        }

        /** A NIGHT that begins with THE HEART in that PLACE. */
        void passFrom(int place, int dusted, int draw) {
            heart = place;
            letters[0] = night;
            letters[3] = dusted;
            letters[4] = said;
            letters[DRAW] = draw;
            look();
            int to = law.ask('m', letters);
            if (world.isTold(to)) {
                heart = to;
                look();
            }
            int word = law.ask('l', letters);
            said = world.isTold(word) ? word : heart;
            night++;
        }

        /** The next NIGHT is that one, he having SAID that before. */
        void turnTo(int number, int saidBefore) {
            night = number;
            said = saidBefore;
        }

        private void look() {
            letters[1] = heart;
            letters[2] = world.islandOf(heart);
            letters[5] = world.isWet(heart) ? 1 : 0;
            letters[6] = isBelow(heart, PLACES) && world.lock[heart] != NONE ? 1 : 0;
            letters[7] = world.placesIn(heart);
        }

        int trial(int n, int what) {
            int truths = 0;
            int moves = 0;
            begin();
            for (int i = 0; i < n; i++) {
                int before = heart;
                pass(said);
                truths += said == heart ? 1 : 0;
                moves += before != heart ? 1 : 0;
            }
            switch (what) {
                case 0: return heart;
                case 1: return said;
                case 2: return truths;
                default: return moves;
            }
        }
    }

    /** A STORY, and how much weighs each PLACE behind it. */
    static final class Stories {
        static final int LONGEST = 60;
        private final World world;
        private final Law law;
        private final Nights nights;
        private final int[] dusted = new int[STORY_NIGHTS];
        private final int[] said = new int[STORY_NIGHTS];
        private int many;
        private final long[] weights = new long[PLACES];
        private final long[] next = new long[PLACES];
        private final long[] told = new long[PLACES * PLACES];

        Stories(World world, Law law, Nights nights) {
            this.world = world;
            this.law = law;
            this.nights = nights;
        }

        /** 0, or a FAULT. */
        int read(Tape text) {
            many = 0;
            int at = 0;
            for (int i = 0; i <= STORY_NIGHTS; i++) {
                int dust = text.at(at);
                if (dust != '.' && !isPlaceSign(dust)) {
                    return fault(1, at);
                }
                if (many >= STORY_NIGHTS) {
                    return fault(4, at);
                }
                int word = text.at(at + 1);
                if (!isPlaceSign(word)) {
                    return fault(1, at + 1);
                }
                dusted[many] = dust == '.' ? NOTHING : dust - '0';
                said[many] = word - '0';
                many++;
                at += 2;
                if (at == text.length) {
                    return 0;
                }
                if (text.at(at) != ',') {
                    return fault(1, at);
                }
                at++;
            }
            return fault(4, at);
        }

        private static boolean isPlaceSign(int sign) {
            return sign >= '0' && sign <= '7';
        }

        long odds(int places, int what) {
            long sum = weigh(places);
            if (sum == 0) {
                return -2;
            }
            if (what == 16) {
                return possible();
            }
            if (!isBelow(what, 16)) {
                return NONE;
            }
            long weight = weights[what % PLACES];
            return (what < PLACES ? weight : sum) / commonDivisor(weight, sum);
        }

        private int possible() {
            int can = 0;
            for (int p = 0; p < PLACES; p++) {
                can += weights[p] > 0 ? 1 : 0;
            }
            return can;
        }

        /** Draws that are not asked for would only weigh all alike. */
        private int draws() {
            return law.asksDraw ? DRAWS : 1;
        }

        /** The sum of the weights behind the STORY. */
        private long weigh(int places) {
            for (int p = 0; p < PLACES; p++) {
                weights[p] = places >> p & 1;
            }
            for (int n = 0; n < many && n < STORY_NIGHTS; n++) {
                weighNight(n);
            }
            long sum = 0;
            for (int p = 0; p < PLACES; p++) {
                sum += weights[p];
            }
            return sum;
        }

        private void weighNight(int n) {
            for (int p = 0; p < PLACES; p++) {
                next[p] = 0;
            }
            for (int p = 0; p < PLACES; p++) {
                for (int draw = 0; draw < draws() && weights[p] > 0; draw++) {
                    turnTo(n);
                    nights.passFrom(p, dusted[n], draw);
                    if (nights.said == said[n] && isBelow(nights.heart, PLACES)) {
                        next[nights.heart] += weights[p];
                    }
                }
            }
            System.arraycopy(next, 0, weights, 0, PLACES);
        }

        /** To the night with n of the STORY's nights behind it. */
        private void turnTo(int n) {
            nights.turnTo(world.night + n, n > 0 && n <= STORY_NIGHTS ? said[n - 1] : world.said);
        }

        long bestDust(int places, int what) {
            long sum = weigh(places);
            if (sum == 0) {
                return -2;
            }
            int best = 0;
            long most = NONE;
            for (int dust = 0; dust <= NOTHING; dust++) {
                long guessed = guessedBy(dust);
                if (guessed > most) {
                    most = guessed;
                    best = dust;
                }
            }
            if (what == 0) {
                return best;
            }
            long all = sum * draws();
            return (what == 1 ? most : all) / commonDivisor(most, all);
        }

        /** Over what he may say, the weight of the likeliest PLACE. */
        private long guessedBy(int dust) {
            for (int i = 0; i < PLACES * PLACES; i++) {
                told[i] = 0;
            }
            for (int p = 0; p < PLACES; p++) {
                for (int draw = 0; draw < draws() && weights[p] > 0; draw++) {
                    turnTo(many);
                    nights.passFrom(p, dust, draw);
                    if (isBelow(nights.said, PLACES) && isBelow(nights.heart, PLACES)) {
                        told[PLACES * nights.said + nights.heart] += weights[p];
                    }
                }
            }
            long sum = 0;
            for (int word = 0; word < PLACES; word++) {
                long most = 0;
                for (int p = 0; p < PLACES; p++) {
                    most = Math.max(most, told[PLACES * word + p]);
                }
                sum += most;
            }
            return sum;
        }
    }

    /**
     * What THE SEEKER can do. A state is ISLAND + 4 (what each BEAST has done + 27 what is OPENED),
     * a BEAST having done nothing, its own thing, or given its KEYS (a digit 0, 1, 2 of three).
     */
    static final class Seeker {
        static final int GO = 0;
        static final int RAVEN = 1;
        static final int OPEN = 2;
        static final int WOLF = 3;
        static final int SALMON = 4;
        static final int GIVE = 5;
        static final int LETTERS = 6;
        static final int BEAST_CODES = 27;
        private static final int[] HIGHEST = {3, 3, 7, 7, 7, 2};
        private static final int[] POWERS = {1, 3, 9};

        private final World world;
        private final int[] placesOn = new int[ISLANDS];
        private final int[] waysFrom = new int[ISLANDS];
        private final int[] around = new int[PLACES];
        private final int[] where = new int[KEYS];
        private final int[] mouths = new int[BEASTS];
        private int goal;
        int island;
        int opened;
        private int beasts;
        int keys;
        private int byRaven;
        private int byKey;
        private int byWolf;
        private int bySalmon;
        private final int[] can = new int[LETTERS];

        Seeker(World world) {
            this.world = world;
        }

        static int highest(int letter) {
            return isBelow(letter, LETTERS) ? HIGHEST[letter] : NONE;
        }

        void learn() {
            for (int isle = 0; isle < ISLANDS; isle++) {
                placesOn[isle] = 0;
                for (int p = 0; p < PLACES; p++) {
                    placesOn[isle] |= world.isTold(p) && world.islandOf(p) == isle ? 1 << p : 0;
                }
                waysFrom[isle] = 0;
                for (int to = 0; to < ISLANDS; to++) {
                    waysFrom[isle] |= daysTo(isle, to) > 0 ? 1 << to : 0;
                }
            }
            for (int p = 0; p < PLACES; p++) {
                around[p] = world.around(p);
            }
            System.arraycopy(world.keyAt, 0, where, 0, KEYS);
            learnMouths();
            goal = 0;
            int at = world.heart;
            for (int i = 0; i < PLACES && isBelow(at, PLACES); i++) {
                goal |= 1 << at;
                at = world.flight[at];
            }
        }

        private void learnMouths() {
            for (int b = 0; b < BEASTS; b++) {
                mouths[b] = 0;
                for (int k = 0; k < KEYS; k++) {
                    mouths[b] |= where[k] == PLACES + b ? 1 << k : 0;
                }
            }
        }

        /** For a question only: the world's KEY stays where it is. */
        void putKey(int k, int place) {
            if (isBelow(k, KEYS)) {
                where[k] = place;
                learnMouths();
            }
        }

        int goalPlaces() {
            return goal;
        }

        boolean isHad(int places) {
            return (goal & ~places) == 0;
        }

        int aroundOf(int p) {
            return isBelow(p, PLACES) ? around[p] : 0;
        }

        int lockOf(int p) {
            return isBelow(p, PLACES) ? world.lock[p] : NONE;
        }

        /** The KEYS in that BEAST's mouth. */
        int mouthOf(int b) {
            return isBelow(b, BEASTS) ? mouths[b] : 0;
        }

        int whereIs(int k) {
            return isBelow(k, KEYS) ? where[k] : NONE;
        }

        void stand(int state) {
            enter(Math.max(state, 0) / ISLANDS);
            arrive(Math.max(state, 0) % ISLANDS);
        }

        /** What is alike on all ISLANDS. */
        void enter(int layer) {
            beasts = layer % BEAST_CODES;
            opened = layer / BEAST_CODES;
            gatherKeys();
            findOpenable();
            byRaven = done(0) == 0 ? (1 << ISLANDS) - 1 : 0;
            can[GIVE] = 0;
            for (int b = 0; b < BEASTS; b++) {
                can[GIVE] |= done(b) == 0 && mouths[b] != 0 ? 1 << b : 0;
            }
        }

        void arrive(int isle) {
            if (isle < 0 || isle >= ISLANDS) {
                return;
            }
            island = isle;
            can[GO] = waysFrom[isle];
            can[RAVEN] = byRaven & ~(1 << isle);
            can[OPEN] = byKey & placesOn[isle];
            can[WOLF] = byWolf & placesOn[isle];
            can[SALMON] = bySalmon & placesOn[isle];
        }

        private void gatherKeys() {
            keys = 0;
            for (int k = 0; k < KEYS; k++) {
                int place = where[k];
                boolean isGiven = place >= PLACES && done(place - PLACES) == 2;
                boolean isFound = place >= 0 && place < PLACES && (opened >> place & 1) == 1;
                keys |= isGiven || isFound ? 1 << k : 0;
            }
        }

        private void findOpenable() {
            int free = 0;
            int unlocked = 0;
            for (int p = 0; p < PLACES; p++) {
                int lock = world.lock[p];
                free |= (around[p] & ~opened) == 0 ? 1 << p : 0;
                unlocked |= lock == NONE || (keys >> lock & 1) == 1 ? 1 << p : 0;
            }
            byKey = ~opened & free & unlocked;
            byWolf = done(1) == 0 ? ~opened & free & ~world.wet : 0;
            bySalmon = done(2) == 0 ? ~opened & world.wet : 0;
        }

        private int done(int beast) {
            return beast >= 0 && beast < BEASTS ? beasts / POWERS[beast] % 3 : NONE;
        }

        /** The DAYS of a WAY; 0: none. */
        int daysTo(int a, int b) {
            return isBelow(a, ISLANDS) && isBelow(b, ISLANDS) ? world.ways[ISLANDS * a + b] : 0;
        }

        int daysOf(int letter, int digit) {
            if (letter == GO) {
                return daysTo(island, digit);
            }
            return letter == GIVE ? 0 : 1;
        }

        /** The digits that can stand behind the letter here, as bits. */
        int canBits(int letter) {
            return isBelow(letter, LETTERS) ? can[letter] : 0;
        }

        /** The state behind an ACT that can be. */
        int after(int letter, int digit) {
            switch (letter) {
                case GO: return state(opened, 0, digit);
                case RAVEN: return state(opened, POWERS[0], digit);
                case OPEN: return state(opened | 1 << digit, 0, island);
                case WOLF: return state(opened | 1 << digit, POWERS[1], island);
                case SALMON: return state(opened | 1 << digit, POWERS[2], island);
                default: return state(opened, isBelow(digit, BEASTS) ? 2 * POWERS[digit] : 0, island);
            }
        }

        private int state(int places, int deed, int isle) {
            return (places * BEAST_CODES + beasts + deed) * ISLANDS + isle;
        }
    }

    /** A TALE and how it is JUDGED. */
    static final class Tale {
        static final int LONGEST = 100;
        private static final int MOST = 32;
        private static final String LETTERS = "growsk";
        private final int[] letters = new int[MOST];
        private final int[] digits = new int[MOST];
        private int many;

        /** 0, or a FAULT. */
        int read(Tape text) {
            many = 0;
            int at = 0;
            for (int i = 0; i <= MOST; i++) {
                int sign = text.at(at);
                int letter = sign < 0 ? NONE : LETTERS.indexOf((char) sign);
                if (letter < 0) {
                    return fault(1, at);
                }
                if (many >= MOST) {
                    return fault(4, at);
                }
                int digit = text.at(at + 1) - '0';
                if (!isBelow(digit, 10)) {
                    return fault(1, at + 1);
                }
                if (digit > Seeker.highest(letter)) {
                    return fault(3, at + 1);
                }
                letters[many] = letter;
                digits[many] = digit;
                many++;
                at += 2;
                if (at == text.length) {
                    return 0;
                }
                if (text.at(at) != ',') {
                    return fault(1, at);
                }
                at++;
            }
            return fault(4, at);
        }

        int judged(Seeker seeker, int what) {
            int days = 0;
            int act = 0;
            seeker.learn();
            seeker.stand(0);
            for (; act < many && act < MOST; act++) {
                if ((seeker.canBits(letters[act]) >> digits[act] & 1) == 0) {
                    break;
                }
                days += seeker.daysOf(letters[act], digits[act]);
                seeker.stand(seeker.after(letters[act], digits[act]));
            }
            switch (what) {
                case 0: return act;
                case 1: return days;
                case 2: return seeker.opened;
                case 3: return seeker.keys;
                case 4: return seeker.island;
                default: return seeker.isHad(seeker.opened) ? 1 : 0;
            }
        }
    }

    /**
     * The cheapest way to each of THE SEEKER's states. States that differ by the ISLAND alone are a layer;
     * every ACT but going leads into a layer with a higher number, so one pass over the layers does.
     */
    static final class Planner {
        private static final int LAYERS = Seeker.BEAST_CODES << PLACES;
        private static final int STATES = LAYERS * ISLANDS;
        /** More than the ACTS or PLACES of any way, so that DAYS always count first. */
        private static final int DAY = 1024;
        private static final int NEVER = 1 << 27;
        /** No wood needs more than 32 (NOTES.md); so deep, too, goes follow(). */
        private static final int MOST_ACTS = 40;

        private final Seeker seeker;
        private final int[] far = new int[STATES];
        private final int[] paths = new int[ISLANDS * ISLANDS];
        private final int[] entry = new int[ISLANDS];
        private final int[] written = new int[MOST_ACTS];
        private boolean byActs;
        private int useful;
        private final int[] helpful = new int[Seeker.LETTERS];
        private int best;
        private final int[] hiders = new int[4];
        private final int[] homes = new int[4];
        private final int[] row = new int[4];
        private final int[] bestRow = new int[4];
        private int many;

        Planner(Seeker seeker) {
            this.seeker = seeker;
        }

        int days() {
            return best / DAY;
        }

        /** What counts behind the DAYS. */
        int rest() {
            return best % DAY;
        }

        int actAt(int i) {
            return isBelow(i, MOST_ACTS) ? written[i] : NONE;
        }

        /** By fewest DAYS, then by fewest ACTS or else by fewest OPENED: whether IT IS HAD at all. */
        boolean search(boolean countActs) {
            byActs = countActs;
            best = NEVER;
            findUseful();
            findPaths();
            for (int opened = 0; opened <= useful; opened++) {
                if ((opened & ~useful) == 0) {
                    clear(opened);
                }
            }
            far[0] = 0;
            for (int opened = 0; opened <= useful; opened++) {
                if ((opened & ~useful) == 0) {
                    advance(opened);
                }
            }
            return best < NEVER;
        }

        /** What leads to no PLACE that must be OPENED is in no best way, and left out. */
        private void findUseful() {
            useful = seeker.goalPlaces();
            int locks = 0;
            for (int round = 0; round < PLACES; round++) {
                for (int p = 0; p < PLACES; p++) {
                    int lock = (useful >> p & 1) == 1 ? seeker.lockOf(p) : NONE;
                    int where = seeker.whereIs(lock);
                    locks |= lock == NONE ? 0 : 1 << lock;
                    useful |= isBelow(where, PLACES) ? 1 << where : 0;
                    useful |= (useful >> p & 1) == 1 ? seeker.aroundOf(p) : 0;
                }
            }
            helpful[Seeker.GO] = (1 << ISLANDS) - 1;
            helpful[Seeker.RAVEN] = (1 << ISLANDS) - 1;
            helpful[Seeker.OPEN] = useful;
            helpful[Seeker.WOLF] = useful;
            helpful[Seeker.SALMON] = useful;
            helpful[Seeker.GIVE] = 0;
            for (int b = 0; b < BEASTS; b++) {
                helpful[Seeker.GIVE] |= (seeker.mouthOf(b) & locks) != 0 ? 1 << b : 0;
            }
        }

        private void clear(int opened) {
            int first = opened * Seeker.BEAST_CODES * ISLANDS;
            for (int i = 0; i < Seeker.BEAST_CODES * ISLANDS && first + i < STATES; i++) {
                far[first + i] = NEVER;
            }
        }

        private int price(int letter, int days) {
            boolean isOpening = letter == Seeker.OPEN || letter == Seeker.WOLF || letter == Seeker.SALMON;
            return DAY * days + (byActs || isOpening ? 1 : 0);
        }

        /** The cheapest ways between any two ISLANDS. */
        private void findPaths() {
            for (int a = 0; a < ISLANDS; a++) {
                for (int b = 0; b < ISLANDS; b++) {
                    int days = seeker.daysTo(a, b);
                    paths[ISLANDS * a + b] = days > 0 ? price(Seeker.GO, days) : NEVER;
                }
                paths[ISLANDS * a + a] = 0;
            }
            for (int over = 0; over < ISLANDS; over++) {
                for (int i = 0; i < ISLANDS * ISLANDS; i++) {
                    int a = i / ISLANDS;
                    int b = i % ISLANDS;
                    int cost = paths[ISLANDS * a + over] + paths[ISLANDS * over + b];
                    paths[i] = Math.min(paths[i], cost);
                }
            }
        }

        private void advance(int opened) {
            boolean isHad = seeker.isHad(opened);
            for (int beasts = 0; beasts < Seeker.BEAST_CODES; beasts++) {
                int layer = opened * Seeker.BEAST_CODES + beasts;
                if (layer >= LAYERS || !settle(layer)) {
                    continue;
                }
                seeker.enter(layer);
                for (int state = ISLANDS * layer; state < ISLANDS * (layer + 1); state++) {
                    if (far[state] < best && isHad) {
                        best = far[state];
                    } else if (far[state] < best) {
                        leave(state);
                    }
                }
            }
        }

        /** Spreads over the ISLANDS; false: nobody comes into the layer. */
        private boolean settle(int layer) {
            int least = NEVER;
            for (int island = 0; island < ISLANDS; island++) {
                entry[island] = far[ISLANDS * layer + island];
                least = Math.min(least, entry[island]);
            }
            if (least >= NEVER) {
                return false;
            }
            for (int i = 0; i < ISLANDS * ISLANDS; i++) {
                int state = ISLANDS * layer + i % ISLANDS;
                far[state] = Math.min(far[state], entry[i / ISLANDS] + paths[i]);
            }
            return true;
        }

        private void leave(int state) {
            int cost = far[state];
            seeker.arrive(state % ISLANDS);
            for (int letter = Seeker.RAVEN; letter < Seeker.LETTERS; letter++) {
                int digits = helpfulBits(letter);
                int there = cost + price(letter, letter == Seeker.GIVE ? 0 : 1);
                for (int digit = 0; digit < PLACES && digits >> digit != 0; digit++) {
                    int next = (digits >> digit & 1) == 1 ? seeker.after(letter, digit) : NONE;
                    if (next >= 0 && next < STATES && far[next] > there) {
                        far[next] = there;
                    }
                }
            }
        }

        private int helpfulBits(int letter) {
            return letter >= 0 && letter < Seeker.LETTERS ? seeker.canBits(letter) & helpful[letter] : 0;
        }

        /** Writes THE PLAN behind a search by ACTS: how many it has. */
        int write() {
            for (int acts = 0; acts < MOST_ACTS; acts++) {
                written[acts] = NONE;
            }
            follow(0, 0);
            for (int acts = 0; acts < MOST_ACTS; acts++) {
                if (written[acts] == NONE) {
                    return acts;
                }
            }
            return MOST_ACTS;
        }

        /**
         * Follows the best ways in the order of their rows; whether one of them leads from here to its end.
         * A state from which none does is closed behind, so that each is looked at once.
         */
        private boolean follow(int state, int depth) {
            if (state < 0 || state >= STATES || depth >= MOST_ACTS) {
                return false;
            }
            int cost = far[state];
            seeker.stand(state);
            if (seeker.isHad(seeker.opened)) {
                return cost == best;
            }
            for (int letter = Seeker.GO; letter < Seeker.LETTERS; letter++) {
                int digits = helpfulBits(letter);
                for (int digit = 0; digit < PLACES && digits >> digit != 0; digit++) {
                    int next = (digits >> digit & 1) == 1 ? seeker.after(letter, digit) : NONE;
                    int there = cost + price(letter, seeker.daysOf(letter, digit));
                    if (next < 0 || next >= STATES || there > best || far[next] != there) {
                        continue;
                    }
                    written[depth] = 10 * letter + digit;
                    if (follow(next, depth + 1)) {
                        return true;
                    }
                    seeker.stand(state);
                }
            }
            far[state] = NEVER;
            written[depth] = NONE;
            return false;
        }

        /** HIDDEN: the DAYS of the row by which IT IS HAD latest; NONE: by none. */
        int hide(World world, int keys) {
            many = 0;
            for (int k = 0; k < KEYS && many < 4; k++) {
                if ((keys >> k & 1) == 1) {
                    hiders[many] = k;
                    homes[many] = world.keyAt[k];
                    many++;
                }
            }
            seeker.learn();
            int latest = NONE;
            for (int number = 0; number < 1 << 2 * many; number++) {
                if (takeRow(number) && search(false) && days() > latest) {
                    latest = days();
                    System.arraycopy(row, 0, bestRow, 0, 4);
                }
            }
            return latest;
        }

        /** Puts the KEYS by the row with that number (two bits each, the first KEY's highest), if there is one. */
        private boolean takeRow(int number) {
            int taken = 0;
            for (int i = 0; i < many && i < 4; i++) {
                row[i] = number >> 2 * (many - 1 - i) & 3;
                taken |= 1 << row[i];
            }
            if (taken != (1 << many) - 1) {
                return false;
            }
            for (int i = 0; i < many && i < 4; i++) {
                seeker.putKey(hiders[i], homes[row[i] & 3]);
            }
            return true;
        }

        int placeOfWhich(int k) {
            for (int i = 0; i < many && i < 4; i++) {
                if (hiders[i] == k) {
                    return hiders[bestRow[i] & 3];
                }
            }
            return NONE;
        }

        void putSo(World world) {
            for (int i = 0; i < many && i < 4; i++) {
                world.keyAt[hiders[i] & 7] = homes[bestRow[i] & 3];
            }
        }
    }

    /** HIDE AND SEEK by lot: each PLACE's lot is the less, the more a find there is worth, as 1 to its worth. */
    static final class Lots {
        static final int MOST = 6;
        private final int[] worths = new int[MOST];
        private int many;
        private long product;
        private long sum;

        /** False: no such worth. */
        boolean read(Tape text, int n) {
            many = 0;
            product = 1;
            sum = 0;
            for (int i = 0; i < n && i < MOST; i++) {
                int worth = text.at(i);
                if (worth < 1 || worth > 99) {
                    return false;
                }
                worths[i] = worth;
                product *= worth;
                many++;
            }
            for (int i = 0; i < many; i++) {
                sum += othersThan(i);
            }
            return true;
        }

        private long othersThan(int i) {
            return isBelow(i, many) && isBelow(i, MOST) && worths[i] != 0 ? product / worths[i] : 0;
        }

        long answer(int what) {
            long above = what < 10 ? product : othersThan(what % 10);
            boolean isAbove = what == 0 || (what >= 10 && what < 20);
            return (isAbove ? above : sum) / commonDivisor(above, sum);
        }
    }

    static final class Eggs {
        private static final int EGGS = 8;
        private static final int TESTS = 6;
        int told;
        private final int[] shown = new int[TESTS];

        boolean tell(int i, boolean is) {
            if (!isBelow(i, EGGS) || isTold(i) == is) {
                return false;
            }
            told ^= 1 << i;
            return true;
        }

        private boolean isTold(int i) {
            return isBelow(i, EGGS) && (told >> i & 1) == 1;
        }

        boolean show(int t, int bits) {
            if (!isBelow(t, TESTS) || !isBelow(bits, 1 << EGGS)) {
                return false;
            }
            shown[t] = bits;
            return true;
        }

        private boolean isShownAlike(int i, int j, int tests) {
            for (int t = 0; t < TESTS; t++) {
                if ((tests >> t & 1) == 1 && (shown[t] >> i & 1) != (shown[t] >> j & 1)) {
                    return false;
                }
            }
            return true;
        }

        int sameAs(int i, int tests) {
            if (!isTold(i) || !isBelow(tests, 1 << TESTS)) {
                return NONE;
            }
            int bits = 0;
            for (int j = 0; j < EGGS; j++) {
                bits |= isTold(j) && isShownAlike(i, j, tests) ? 1 << j : 0;
            }
            return bits;
        }

        private boolean areApart(int tests) {
            for (int i = 0; i < EGGS; i++) {
                if (isTold(i) && sameAs(i, tests) != 1 << i) {
                    return false;
                }
            }
            return true;
        }

        int fewestTests(int what) {
            int best = NONE;
            for (int tests = 0; tests < 1 << TESTS; tests++) {
                boolean isFewer = best == NONE || Integer.bitCount(tests) < Integer.bitCount(best);
                if (isFewer && areApart(tests)) {
                    best = tests;
                }
            }
            if (best == NONE) {
                return -2;
            }
            return what == 0 ? Integer.bitCount(best) : best;
        }
    }

    /** THE BEASTS OF THE WOOD. */
    static final class Wood {
        private static final int MOST = 12;
        private final int[] creditors = new int[MOST];

        Wood() {
            for (int i = 0; i < MOST; i++) {
                creditors[i] = NONE;
            }
        }

        boolean owe(int i, int j) {
            if (!isBelow(i, MOST) || i == j || (j != NONE && !isBelow(j, MOST))) {
                return false;
            }
            creditors[i] = j;
            return true;
        }

        /** Its length; 0: the BEAST is in none. */
        private int ringOf(int i) {
            int at = i;
            for (int steps = 1; steps <= MOST && isBelow(at, MOST); steps++) {
                at = creditors[at];
                if (at == i) {
                    return steps;
                }
            }
            return 0;
        }

        private boolean isLeastOfRing(int i) {
            int at = i;
            for (int steps = 0; steps < ringOf(i) && isBelow(at, MOST); steps++) {
                if (at < i) {
                    return false;
                }
                at = creditors[at];
            }
            return ringOf(i) > 0;
        }

        private int howMany() {
            int many = 0;
            for (int i = 0; i < MOST; i++) {
                many += isLeastOfRing(i) ? 1 : 0;
            }
            return many;
        }

        private int inRings() {
            int many = 0;
            for (int i = 0; i < MOST; i++) {
                many += ringOf(i) > 0 ? 1 : 0;
            }
            return many;
        }

        private int longest() {
            int most = 0;
            for (int i = 0; i < MOST; i++) {
                most = Math.max(most, ringOf(i));
            }
            return most;
        }

        /** The steps to one that is in a ring or owes nobody; or (toRing) whether it is in one. */
        private int walk(int i, boolean toRing) {
            int at = i;
            for (int steps = 0; steps < MOST && isBelow(at, MOST); steps++) {
                boolean inRing = ringOf(at) > 0;
                if (inRing || creditors[at] == NONE) {
                    return toRing ? (inRing ? 1 : 0) : steps;
                }
                at = creditors[at];
            }
            return 0;
        }

        int answer(int i, int what) {
            if ((what == 3 || what == 4) && !isBelow(i, MOST)) {
                return NONE;
            }
            switch (what) {
                case 0: return howMany();
                case 1: return inRings();
                case 2: return longest();
                case 3: return walk(i, false);
                case 4: return walk(i, true);
                default: return NONE;
            }
        }
    }
}
