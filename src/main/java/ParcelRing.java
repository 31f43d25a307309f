import java.util.Arrays;

/** A parcel that goes round a ring of children; ../shared/DOC.md says what each call answers. */
public final class ParcelRing {
    public static final int BAD = -1000000001, NO = -1000000002, FULL = -1000000003, NONE = -1000000005, NOTHING = -1000000011, KIND = -1000000012, INDEX = -1000000013, SIZE = -1000000014;

    private static final int MOST_CHILDREN = 10, MOST_PAPERS = 20, MOST_STOPS = 10, MOST_TEXTS = 14;
    private static final int MOST_HOLD = 9, MOST_HAD = 99, MOST_SECONDS = 99, MOST_WISH = 9, MOST_TAKEN = 9999;
    private static final int MOST_HOLDS = 99, MOST_LASTS = 999, MOST_LANDS = 9999;
    private static final int MOST_BYTES = 96, MOST_OPEN = 8, MOST_WAITING = 60;
    private static final int MOST_SHEETS = 4, MOST_SLOTS = 5, MOST_PLACES = 24, MOST_FLOAT = 99999;
    private static final int MOST_GO = 100, MOST_BEHIND = 100, MOST_FIRST = 60, MOST_STEER = 30;
    private static final int MOST_PAYS = 60, MOST_WORST = 60, MOST_FILMED = 40, MOST_CHECK = 30;

    private static final int SWEET = 1, FORFEIT = 2;
    private static final int STOP = 0, LOT = 1, EVENING = 2, SNATCHED = 3, WISHED = 4, HELD = 5;
    /** For each KIND the one that it is under (STOP is under none: it stands for itself). */
    private static final int[] ABOVE = {0, 0, 0, 1, 2, 0};
    private static final int OF_HOLD = 0, OF_STOP = 1, OF_FINE = 2, KEYS = 3;
    private static final int MISSING = -1, SHORTS = 0, FLOATS = 1;
    private static final int HOLDS_NOTHING = 0, HOLDS_STOP = 1, HOLDS_SHEET = 2, HOLDS_NUMBER = 3;
    private static final int NOBODY = -1;

    private final Ring now = new Ring();
    /** What is only thought is played here, so that nothing of now changes. */
    private final Ring thought = new Ring();
    private final Ring image = new Ring();
    private boolean kept;
    private final Reader tape = new Reader();
    private final Sheet[] sheets = new Sheet[MOST_SHEETS];
    private final Slot[] slots = new Slot[MOST_SLOTS];
    private final int[] waiting = new int[MOST_WAITING];
    private int waits;

    public ParcelRing() {
        for (int i = 0; i < MOST_SHEETS; i++) {
            sheets[i] = new Sheet();
        }
        for (int i = 0; i < MOST_SLOTS; i++) {
            slots[i] = new Slot();
        }
    }

    // ---- children, papers

    public int child(int hold) {
        if (!within(hold, 1, MOST_HOLD)) {
            return BAD;
        }
        if (now.childCount >= MOST_CHILDREN) {
            return FULL;
        }
        Child fresh = now.children[now.childCount];
        fresh.hold = hold;
        fresh.had = 0;
        fresh.out = 0;
        now.childCount++;
        return now.childCount - 1;
    }

    public int childTold(int child, int what) {
        if (!now.isChild(child)) {
            return BAD;
        }
        Child c = now.children[child];
        switch (what) {
            case 0: return c.hold;
            case 1: return c.had;
            case 2: return c.out;
            case 3: return now.holdsOf(c);
            case 4: return orNone(now.nextOf(child));
            default: return BAD;
        }
    }

    public int lays(int child, int what, int v) {
        if (!now.isChild(child)) {
            return BAD;
        }
        Child c = now.children[child];
        int was = BAD;
        if (what == 0 && within(v, 1, MOST_HOLD)) {
            was = c.hold;
            c.hold = v;
        } else if (what == 1 && within(v, 0, MOST_HAD)) {
            was = c.had;
            c.had = v;
        } else if (what == 2 && within(v, 0, 1)) {
            was = c.out;
            c.out = v;
        }
        return was;
    }

    public int paper(int sort) {
        if (!within(sort, 0, FORFEIT)) {
            return BAD;
        }
        if (now.paperCount >= MOST_PAPERS) {
            return FULL;
        }
        now.papers[now.paperCount] = sort;
        now.paperCount++;
        return now.paperCount - 1;
    }

    public int sorts(int paper, int v) {
        if (!within(paper, 0, now.paperCount - 1) || !within(v, 0, FORFEIT)) {
            return BAD;
        }
        int was = now.papers[paper];
        now.papers[paper] = v;
        return was;
    }

    public int rule(int what, int v) {
        int was = BAD;
        if (what == 0 && within(v, 0, 1)) {
            was = now.outRule;
            now.outRule = v;
        } else if (what == 1 && within(v, 0, 1)) {
            was = now.way;
            now.way = v;
        } else if (what == 2 && now.isChild(v)) {
            was = now.at;
            now.at = v;
        }
        return was;
    }

    // ---- stops

    public int stop(int kind, int seconds, int wish) {
        if (!isKind(kind) || !within(seconds, 0, MOST_SECONDS) || !within(wish, 0, MOST_WISH)) {
            return BAD;
        }
        if (now.stopCount >= MOST_STOPS) {
            return FULL;
        }
        now.addStop(kind, seconds, wish);
        return now.stopCount - 1;
    }

    public int told(int stop, int what) {
        if (!now.isStop(stop)) {
            return BAD;
        }
        Stop s = now.stops[stop];
        switch (what) {
            case 0: return s.kind;
            case 1: return s.seconds;
            case 2: return s.wish;
            case 3: return now.lastsBy(s, 0);
            case 4: return now.lastsBy(s, 9);
            case 5: return s.worth();
            default: return BAD;
        }
    }

    public int as(int stop, int kind) {
        if (!now.isStop(stop) || !isKind(kind)) {
            return BAD;
        }
        Stop s = now.stops[stop];
        return s.isOf(kind) ? s.seconds : KIND;
    }

    public int turns(int stop, int kind) {
        if (!now.isStop(stop) || !isKind(kind)) {
            return BAD;
        }
        int was = now.stops[stop].kind;
        now.stops[stop].kind = kind;
        return was;
    }

    public int set(int stop, int what, int v) {
        if (!now.isStop(stop)) {
            return BAD;
        }
        Stop s = now.stops[stop];
        int was = BAD;
        if (what == 1 && within(v, 0, MOST_SECONDS)) {
            was = s.seconds;
            s.seconds = v;
        } else if (what == 2 && within(v, 0, MOST_WISH)) {
            was = s.wish;
            s.wish = v;
        }
        return was;
    }

    public int deal(int n) {
        if (!within(n, 1, MOST_STOPS)) {
            return BAD;
        }
        int come = Math.min(n, MOST_STOPS - now.stopCount);
        for (int i = 0; i < come; i++) {
            int kind = now.draw() % ABOVE.length;
            int seconds = now.draw() % 60;
            int wish = now.draw() % 10;
            now.addStop(kind, seconds, wish);
        }
        return come;
    }

    public int seed(int v) {
        int was = now.z;
        now.z = v;
        return was;
    }

    // ---- turns

    public int lands(int s) {
        return within(s, 0, MOST_LANDS) ? orNone(now.landsBehind(s, now.measureRound())) : BAD;
    }

    public int round() {
        return now.measureRound();
    }

    public int go(int n) {
        if (!within(n, 1, MOST_GO)) {
            return BAD;
        }
        int many = Math.min(n, MOST_TAKEN - now.taken);
        for (int i = 0; i < many; i++) {
            now.takeTurn();
        }
        return now.at;
    }

    public int odds(int child) {
        if (!now.isChild(child)) {
            return BAD;
        }
        Stop s = now.stopNow();
        if (s == null || now.inCount() == 0) {
            return NO;
        }
        int together = now.measureRound();
        int many = 0;
        for (int x = 0; x < 10; x++) {
            if (now.goesTo(s, now.landsBehind(now.lastsBy(s, x), together)) == child) {
                many++;
            }
        }
        return many;
    }

    // ---- what will be

    public int behind(int n, int what) {
        if (!within(n, 0, MOST_BEHIND) || !within(what, 0, 5)) {
            return BAD;
        }
        thought.become(now);
        thought.takeTurns(n);
        switch (what) {
            case 0: return thought.at;
            case 1: return thought.spread();
            case 2: return thought.hadNone();
            case 3: return thought.time;
            case 4: return thought.sweets;
            default: return thought.forfeits;
        }
    }

    public int had(int child, int n) {
        if (!now.isChild(child) || !within(n, 0, MOST_BEHIND)) {
            return BAD;
        }
        thought.become(now);
        thought.takeTurns(n);
        return thought.children[child].had;
    }

    public int all() {
        thought.become(now);
        for (int n = 0; n <= MOST_FIRST; n++) {
            if (thought.hadNone() == 0) {
                return n;
            }
            thought.takeTurn();
        }
        return NONE;
    }

    public int evens(int v) {
        if (!within(v, 0, MOST_HAD)) {
            return BAD;
        }
        thought.become(now);
        for (int n = 0; n <= MOST_FIRST; n++) {
            if (thought.spread() <= v) {
                return n;
            }
            thought.takeTurn();
        }
        return NONE;
    }

    public int steer(int child, int n) {
        if (!now.isChild(child) || !within(n, 1, MOST_STEER)) {
            return BAD;
        }
        for (int k = n - 1; k >= 0; k--) {
            thought.become(now);
            thought.takeTurns(k);
            thought.makeEvenings();
            if (thought.takeTurns(n - k) == child) {
                return k;
            }
        }
        return NONE;
    }

    public int pays(int child, int n, int what) {
        if (!now.isChild(child) || !within(n, 1, MOST_PAYS) || !within(what, 0, 1)) {
            return BAD;
        }
        int best = 0;
        int most = -1;
        for (int hold = 1; hold <= MOST_HOLD; hold++) {
            thought.become(now);
            thought.children[child].hold = hold;
            thought.takeTurns(n);
            if (thought.children[child].had > most) {
                best = hold;
                most = thought.children[child].had;
            }
        }
        return what == 0 ? best : most;
    }

    public int worst(int n, int what) {
        if (!within(n, 1, MOST_WORST) || !within(what, 0, 1)) {
            return BAD;
        }
        int best = NONE;
        int least = NONE;
        for (int paper = 0; paper < now.paperCount; paper++) {
            thought.become(now);
            thought.papers[paper] = FORFEIT;
            thought.takeTurns(n);
            int spread = thought.spread();
            if (best == NONE || spread < least) {
                best = paper;
                least = spread;
            }
        }
        return what == 0 ? best : least;
    }

    public int filmed(int sheet, int what) {
        if (!isSheet(sheet) || !within(what, 0, 1)) {
            return BAD;
        }
        if (sheets[sheet].sort == MISSING) {
            return NOTHING;
        }
        int best = 0;
        int least = MOST_PLACES + 1;
        for (int seconds = 0; seconds <= MOST_FILMED; seconds++) {
            int wrong = wrongPlaces(sheets[sheet], seconds);
            if (wrong < least) {
                best = seconds;
                least = wrong;
            }
        }
        return what == 0 ? best : least;
    }

    /** How many places of a row tell another one than who has that paper, with these seconds for all stops. */
    private int wrongPlaces(Sheet row, int seconds) {
        thought.become(now);
        thought.makeSeconds(seconds);
        int wrong = 0;
        for (int k = 0; k < row.length; k++) {
            int has = thought.takeTurn();
            if (row.isNumber(k) && row.places[k] != has) {
                wrong++;
            }
        }
        return wrong;
    }

    public int fine(int child) {
        return now.isChild(child) ? now.fineOf(now.children[child]) : BAD;
    }

    // ---- texts

    public int feed(int a, int b, int c) {
        if (tape.length + 12 > MOST_BYTES) {
            return FULL;
        }
        tape.addBytes(a);
        tape.addBytes(b);
        tape.addBytes(c);
        return tape.length;
    }

    public int trim(int n) {
        if (!within(n, 0, tape.length)) {
            return BAD;
        }
        tape.length = n;
        return n;
    }

    public int text() {
        int fault = tape.parse();
        tape.length = 0;
        if (fault >= 0) {
            return -100 - fault;
        }
        if (now.textCount >= MOST_TEXTS) {
            return FULL;
        }
        now.addText(tape.parsed());
        return now.textCount - 1;
    }

    public int textTold(int text, int what) {
        if (!within(text, 0, now.textCount - 1) || !within(what, 0, 1)) {
            return BAD;
        }
        Text t = now.texts[text];
        if (t == null) {
            return BAD;
        }
        return what == 0 ? t.key : t.leaves;
    }

    public int why(int key) {
        return within(key, 0, KEYS - 1) ? orNone(now.laws[key]) : BAD;
    }

    // ---- sheets, slots

    public int sheet(int sheet, int sort, int n) {
        if (!isSheet(sheet) || !within(sort, MISSING, FLOATS)) {
            return BAD;
        }
        if (sort == MISSING) {
            sheets[sheet].begin(MISSING, 0);
            return 0;
        }
        if (n > MOST_PLACES) {
            return BAD;
        }
        if (n < 0) {
            return SIZE;
        }
        sheets[sheet].begin(sort, n);
        return n;
    }

    public int mark(int sheet, int place, int v) {
        if (!isSheet(sheet)) {
            return BAD;
        }
        Sheet row = sheets[sheet];
        if (row.sort == MISSING) {
            return NOTHING;
        }
        if (!within(place, 0, row.length - 1)) {
            return INDEX;
        }
        if (row.sort == SHORTS && v == NONE) {
            return KIND;
        }
        if (row.sort == FLOATS && v != NONE && !within(v, -MOST_FLOAT, MOST_FLOAT)) {
            return BAD;
        }
        row.places[place] = row.sort == SHORTS ? (short) v : v;
        return 1;
    }

    public int pour(int sheet) {
        if (!isSheet(sheet)) {
            return BAD;
        }
        Sheet row = sheets[sheet];
        if (row.sort == MISSING) {
            return NOTHING;
        }
        int otherwise = 0;
        for (int i = 0; i < now.stopCount && i < row.length; i++) {
            Stop s = now.stops[i];
            int seconds = row.isNumber(i) ? heldWithin(row.places[i], 0, MOST_SECONDS) : s.seconds;
            if (seconds != s.seconds) {
                s.seconds = seconds;
                otherwise++;
            }
        }
        return otherwise;
    }

    public int reads(int sheet) {
        if (!isSheet(sheet)) {
            return BAD;
        }
        Sheet row = sheets[sheet];
        if (row.sort == MISSING) {
            return NOTHING;
        }
        for (int k = 0; k < row.length; k++) {
            boolean right = now.isChild(k) && row.places[k] == now.children[k].had;
            if (row.isNumber(k) && !right) {
                return k;
            }
        }
        return NONE;
    }

    public int copy(int from, int place, int to, int at, int many) {
        if (!isSheet(from) || !isSheet(to)) {
            return BAD;
        }
        Sheet source = sheets[from];
        Sheet target = sheets[to];
        if (source.sort == MISSING || target.sort == MISSING) {
            return NOTHING;
        }
        if (source.sort != target.sort) {
            return KIND;
        }
        if (!source.hasPlaces(place, many) || !target.hasPlaces(at, many)) {
            return INDEX;
        }
        System.arraycopy(source.places, place, target.places, at, many);
        return many;
    }

    public int lay(int slot, int thing, int k) {
        if (!isSlot(slot) || !within(thing, HOLDS_NOTHING, HOLDS_NUMBER)) {
            return BAD;
        }
        if (thing == HOLDS_STOP && !now.isStop(k) || thing == HOLDS_SHEET && !isSheet(k)) {
            return BAD;
        }
        if (thing == HOLDS_SHEET && sheets[k].sort == MISSING) {
            return NOTHING;
        }
        Slot s = slots[slot];
        int held = s.thing;
        s.thing = thing;
        if (thing == HOLDS_STOP) {
            s.stop.become(now.stops[k]);
        } else if (thing == HOLDS_SHEET) {
            s.row.become(sheets[k]);
        } else {
            s.number = k;
        }
        return held;
    }

    public int ask(int slot, int kind) {
        if (!isSlot(slot) || !isKind(kind)) {
            return BAD;
        }
        int refusal = slots[slot].refusalAs(HOLDS_STOP);
        if (refusal != 0) {
            return refusal;
        }
        Stop s = slots[slot].stop;
        return s.isOf(kind) ? s.worth() : KIND;
    }

    public int item(int slot, int place) {
        if (!isSlot(slot)) {
            return BAD;
        }
        int refusal = slots[slot].refusalAs(HOLDS_SHEET);
        if (refusal != 0) {
            return refusal;
        }
        Sheet row = slots[slot].row;
        if (!within(place, 0, row.length - 1)) {
            return INDEX;
        }
        return row.isNumber(place) ? row.places[place] : KIND;
    }

    public int rest(int slot, int n) {
        if (!isSlot(slot)) {
            return BAD;
        }
        int refusal = slots[slot].refusalAs(HOLDS_NUMBER);
        if (refusal != 0) {
            return refusal;
        }
        return n == 0 ? NO : slots[slot].number % n;
    }

    // ---- rows, images

    public int tell(int v) {
        if (waits >= MOST_WAITING) {
            return FULL;
        }
        waiting[waits] = v;
        waits++;
        return waits;
    }

    public int check(int n) {
        int many = waits;
        waits = 0;
        if (!within(n, 1, MOST_CHECK)) {
            return BAD;
        }
        if (!kept) {
            return NO;
        }
        thought.become(image);
        int due = Math.min(n, MOST_TAKEN - thought.taken);
        for (int i = 0; i < due; i++) {
            int has = thought.takeTurn();
            if (!waitsAt(2 * i, many, has)) {
                return 1 + 2 * i;
            }
            if (!waitsAt(2 * i + 1, many, thought.spread())) {
                return 2 + 2 * i;
            }
        }
        return many > 2 * due ? 1 + 2 * due : 0;
    }

    private boolean waitsAt(int place, int many, int v) {
        return within(place, 0, many - 1) && waiting[place] == v;
    }

    public int keep() {
        image.become(now);
        kept = true;
        return now.childCount;
    }

    public int back() {
        if (!kept) {
            return NO;
        }
        now.become(image);
        return now.childCount;
    }

    public int count(int what) {
        switch (what) {
            case 0: return now.childCount;
            case 1: return now.inCount();
            case 2: return now.stopCount;
            case 3: return now.paperCount;
            case 4: return now.taken;
            case 5: return now.at;
            case 6: return now.way;
            case 7: return now.outRule;
            case 8: return now.time;
            case 9: return now.sweets;
            case 10: return now.forfeits;
            case 11: return now.spread();
            case 12: return now.textCount;
            case 13: return waits;
            case 14: return tape.length;
            case 15: return now.z;
            default: return BAD;
        }
    }

    private static boolean within(int v, int least, int most) {
        return v >= least && v <= most;
    }

    private static int heldWithin(int v, int least, int most) {
        return Math.max(least, Math.min(most, v));
    }

    private static boolean isKind(int kind) {
        return within(kind, 0, ABOVE.length - 1);
    }

    private static boolean isSheet(int sheet) {
        return within(sheet, 0, MOST_SHEETS - 1);
    }

    private static boolean isSlot(int slot) {
        return within(slot, 0, MOST_SLOTS - 1);
    }

    private static int orNone(int number) {
        return number < 0 ? NONE : number;
    }

    private static final class Child {
        int hold;
        int had;
        int out;

        void become(Child other) {
            hold = other.hold;
            had = other.had;
            out = other.out;
        }
    }

    private static final class Stop {
        int kind;
        int seconds;
        int wish;

        void become(Stop other) {
            kind = other.kind;
            seconds = other.seconds;
            wish = other.wish;
        }

        /** The kinds are three deep, so what is neither the kind, nor right above it, can only be STOP. */
        boolean isOf(int wanted) {
            boolean above = isKind(kind) && ABOVE[kind] == wanted;
            return wanted == kind || above || wanted == STOP;
        }

        int worth() {
            switch (kind) {
                case LOT: return seconds + 9;
                case SNATCHED: return 2 * (seconds + 9);
                case EVENING: return 99 - seconds;
                case WISHED: return 99 - seconds - 5;
                case HELD: return 4;
                default: return seconds;
            }
        }
    }

    /** All that an image keeps, and how a turn goes in it. */
    private static final class Ring {
        final Child[] children = new Child[MOST_CHILDREN];
        int childCount;
        final int[] papers = new int[MOST_PAPERS];
        int paperCount;
        final Stop[] stops = new Stop[MOST_STOPS];
        int stopCount;
        final Text[] texts = new Text[MOST_TEXTS];
        int textCount;
        /** For each key the number of the text that counts, or NOBODY. */
        final int[] laws = {NOBODY, NOBODY, NOBODY};
        /** What each child who is in holds, as it was measured last: a text is dear, so it is asked once. */
        final int[] measured = new int[MOST_CHILDREN];
        int taken;
        int way = 1;
        int at;
        int outRule;
        int time;
        int sweets;
        int forfeits;
        int z = 1;

        Ring() {
            for (int i = 0; i < MOST_CHILDREN; i++) {
                children[i] = new Child();
            }
            for (int i = 0; i < MOST_STOPS; i++) {
                stops[i] = new Stop();
            }
        }

        void become(Ring other) {
            childCount = other.childCount;
            for (int i = 0; i < childCount; i++) {
                children[i].become(other.children[i]);
            }
            paperCount = other.paperCount;
            System.arraycopy(other.papers, 0, papers, 0, MOST_PAPERS);
            stopCount = other.stopCount;
            for (int i = 0; i < stopCount; i++) {
                stops[i].become(other.stops[i]);
            }
            textCount = other.textCount;
            for (int i = 0; i < textCount; i++) {
                texts[i] = other.texts[i];
            }
            System.arraycopy(other.laws, 0, laws, 0, KEYS);
            taken = other.taken;
            way = other.way;
            at = other.at;
            outRule = other.outRule;
            time = other.time;
            sweets = other.sweets;
            forfeits = other.forfeits;
            z = other.z;
        }

        boolean isChild(int child) {
            return child >= 0 && child < childCount;
        }

        boolean isIn(int child) {
            return isChild(child) && children[child].out == 0;
        }

        boolean isStop(int stop) {
            return within(stop, 0, stopCount - 1);
        }

        int inCount() {
            int many = 0;
            for (int i = 0; i < childCount; i++) {
                many += 1 - children[i].out;
            }
            return many;
        }

        int hadNone() {
            int many = 0;
            for (int i = 0; i < childCount; i++) {
                if (children[i].had == 0) {
                    many++;
                }
            }
            return many;
        }

        int spread() {
            int least = MOST_HAD;
            int most = 0;
            for (int i = 0; i < childCount; i++) {
                least = Math.min(least, children[i].had);
                most = Math.max(most, children[i].had);
            }
            return childCount == 0 ? 0 : most - least;
        }

        void addStop(int kind, int seconds, int wish) {
            if (stopCount < MOST_STOPS) {
                stops[stopCount].kind = kind;
                stops[stopCount].seconds = seconds;
                stops[stopCount].wish = wish;
                stopCount++;
            }
        }

        void addText(Text text) {
            if (textCount < MOST_TEXTS && within(text.key, 0, KEYS - 1)) {
                texts[textCount] = text;
                laws[text.key] = textCount;
                textCount++;
            }
        }

        int draw() {
            z = z * 1103515245 + 12345;
            return z >>> 8;
        }

        int sortNow() {
            return within(taken, 0, paperCount - 1) ? papers[taken] : 0;
        }

        /** The stop of the next turn, or null if there are none. */
        Stop stopNow() {
            return stopCount > 0 ? stops[Math.floorMod(taken, stopCount)] : null;
        }

        /** The text that counts for a key, or null. */
        Text lawOf(int key) {
            int number = laws[key];
            return within(number, 0, textCount - 1) ? texts[number] : null;
        }

        int holdsOf(Child c) {
            Text law = lawOf(OF_HOLD);
            if (law == null) {
                return sortNow() == FORFEIT ? 1 : c.hold;
            }
            return heldWithin(law.value(c.hold, c.had, sortNow()), 1, MOST_HOLDS);
        }

        int fineOf(Child c) {
            Text law = lawOf(OF_FINE);
            return law == null ? c.had : law.value(c.had, taken, 0);
        }

        int lastsBy(Stop s, int x) {
            Text law = lawOf(OF_STOP);
            int seconds = law == null ? s.seconds : heldWithin(law.value(s.seconds, taken, time), 0, MOST_LASTS);
            if (s.isOf(LOT)) {
                return seconds + x;
            }
            return s.kind == HELD ? Math.max(0, seconds - 1) : seconds;
        }

        int stepFrom(int child) {
            int step = way == 1 ? child + 1 : child - 1;
            if (step >= childCount) {
                return 0;
            }
            return step < 0 ? childCount - 1 : step;
        }

        int nextOf(int child) {
            int next = child;
            for (int i = 0; i < childCount; i++) {
                next = stepFrom(next);
                if (isIn(next)) {
                    return next;
                }
            }
            return NOBODY;
        }

        int measureRound() {
            int together = 0;
            for (int i = 0; i < childCount; i++) {
                measured[i] = isIn(i) ? holdsOf(children[i]) : 0;
                together += measured[i];
            }
            return together;
        }

        /** Together is what measureRound answered just ahead of this. */
        int landsBehind(int s, int together) {
            if (together <= 0) {
                return NOBODY;
            }
            int c = isIn(at) ? at : nextOf(at);
            int left = s % together;
            for (int i = 0; i < childCount && isChild(c) && left >= measured[c]; i++) {
                left -= measured[c];
                c = nextOf(c);
            }
            return c;
        }

        int goesTo(Stop s, int landed) {
            switch (s.kind) {
                case SNATCHED: return nextOf(landed);
                case EVENING: return fewestFrom(landed);
                case WISHED: return isIn(s.wish) ? s.wish : fewestFrom(landed);
                default: return landed;
            }
        }

        int fewestFrom(int landed) {
            int best = landed;
            int c = landed;
            for (int i = 1; i < childCount && isChild(best); i++) {
                c = stepFrom(c);
                if (isIn(c) && children[c].had < children[best].had) {
                    best = c;
                }
            }
            return best;
        }

        /** Who has the paper, or NOBODY. */
        int takeTurn() {
            int has = NOBODY;
            Stop s = stopNow();
            if (s != null && inCount() > 0) {
                int x = s.isOf(LOT) ? draw() % 10 : 0;
                int seconds = lastsBy(s, x);
                has = goesTo(s, landsBehind(seconds, measureRound()));
                time += seconds;
                give(has);
            }
            taken++;
            return has;
        }

        /** Who has the last paper of so many turns, or NOBODY. */
        int takeTurns(int n) {
            int has = NOBODY;
            for (int i = 0; i < n; i++) {
                has = takeTurn();
            }
            return has;
        }

        void give(int child) {
            if (!isChild(child)) {
                return;
            }
            Child c = children[child];
            c.had = Math.min(MOST_HAD, c.had + 1);
            at = child;
            int sort = sortNow();
            if (sort == SWEET) {
                sweets++;
            } else if (sort == FORFEIT) {
                forfeits++;
                way = 1 - way;
            }
            if (outRule == 1 && inCount() > 2) {
                c.out = 1;
            }
        }

        void makeEvenings() {
            for (int i = 0; i < stopCount; i++) {
                stops[i].kind = EVENING;
            }
        }

        void makeSeconds(int seconds) {
            for (int i = 0; i < stopCount; i++) {
                stops[i].seconds = seconds;
            }
        }
    }

    /** A law: its steps work on a stack, what is joined standing ahead of what joins it. */
    private static final class Text {
        /** A step below this is a number; from it on, the value with the number step less this. */
        static final int NAME = 10000;

        final int key;
        final int leaves;
        final int[] steps;
        final int[] stack;

        Text(int key, int leaves, int[] steps) {
            this.key = key;
            this.leaves = leaves;
            this.steps = steps;
            this.stack = new int[steps.length];
        }

        int value(int first, int second, int third) {
            int top = -1;
            for (int i = 0; i < steps.length; i++) {
                int step = steps[i];
                if (step >= 0 && top + 1 < stack.length) {
                    top++;
                    stack[top] = step < NAME ? step : step == NAME ? first : step == NAME + 1 ? second : third;
                } else if (step == -'!' && top >= 0) {
                    stack[top] = stack[top] == 0 ? 1 : 0;
                } else if (top >= 1) {
                    top--;
                    stack[top] = joined(-step, stack[top], stack[top + 1]);
                }
            }
            return top >= 0 ? stack[top] : 0;
        }

        private static int joined(int sign, int a, int b) {
            switch (sign) {
                case '|': return a != 0 || b != 0 ? 1 : 0;
                case '&': return a != 0 && b != 0 ? 1 : 0;
                case '<': return a < b ? 1 : 0;
                case '=': return a == b ? 1 : 0;
                case '>': return a > b ? 1 : 0;
                case '+': return a + b;
                case '-': return a - b;
                case '*': return a * b;
                default: return b == 0 ? 0 : a / b;
            }
        }
    }

    /** The tape, and how a text is read from it. */
    private static final class Reader {
        static final int END = -1, WORD = -2, NUMBER = -3, BROKEN = -4;
        static final int LOOSEST = 0, TEST = 2, TIGHTEST = 4;

        final int[] bytes = new int[MOST_BYTES];
        int length;
        /** What is being looked at: a sign's byte, or one of the names above. */
        int token;
        int from;
        int until;
        int fault;
        int key;
        int leaves;
        final int[] steps = new int[MOST_BYTES];
        int stepCount;

        void addBytes(int four) {
            for (int shift = 24; shift >= 0 && length < MOST_BYTES; shift -= 8) {
                bytes[length] = four >>> shift & 255;
                length++;
            }
        }

        /** The place of the fault, or -1 if the tape is a text. */
        int parse() {
            fault = -1;
            leaves = 0;
            stepCount = 0;
            until = 0;
            token = END;
            advance();
            parseKey();
            parseJoined(LOOSEST, 0, 0);
            if (token != END) {
                refuse();
            }
            return fault;
        }

        Text parsed() {
            return new Text(key, leaves, Arrays.copyOf(steps, stepCount));
        }

        /** Only the first refusal counts: the one of the first word or sign that does not fit. */
        private void refuse() {
            if (fault < 0) {
                fault = from;
            }
        }

        private boolean isByte(int place, int least, int most) {
            return place >= 0 && place < length && bytes[place] >= least && bytes[place] <= most;
        }

        private void advance() {
            boolean behindWord = token == WORD || token == NUMBER;
            from = until;
            while (from < length && isByte(from, ' ', ' ')) {
                from++;
            }
            boolean glued = behindWord && from == until;
            if (from >= length) {
                token = END;
                until = length;
            } else if (isByte(from, 'a', 'z')) {
                until = endOfRow('a', 'z');
                token = glued ? BROKEN : WORD;
            } else if (isByte(from, '0', '9')) {
                until = endOfRow('0', '9');
                token = glued || until - from > 4 ? BROKEN : NUMBER;
            } else {
                token = bytes[from];
                until = from + 1;
            }
        }

        private int endOfRow(int least, int most) {
            int end = from;
            while (end < length && isByte(end, least, most)) {
                end++;
            }
            return end;
        }

        private boolean isWord(String word) {
            if (token != WORD || until - from != word.length()) {
                return false;
            }
            for (int i = 0; i < word.length(); i++) {
                if (!isByte(from + i, word.charAt(i), word.charAt(i))) {
                    return false;
                }
            }
            return true;
        }

        private void parseKey() {
            if (isWord("hold")) {
                key = OF_HOLD;
            } else if (isWord("stop")) {
                key = OF_STOP;
            } else if (isWord("fine")) {
                key = OF_FINE;
            } else {
                refuse();
                return;
            }
            advance();
        }

        /** How tight a sign joins, or -1 if it joins nothing. */
        private static int tightness(int sign) {
            switch (sign) {
                case '|': return LOOSEST;
                case '&': return 1;
                case '<': case '=': case '>': return TEST;
                case '+': case '-': return 3;
                case '*': case '/': return TIGHTEST;
                default: return -1;
            }
        }

        private void parseJoined(int level, int open, int nots) {
            if (level > TIGHTEST) {
                parsePiece(open, nots);
                return;
            }
            parseJoined(level + 1, open, nots);
            int most = level == TEST ? 1 : MOST_BYTES;
            for (int i = 0; i < most && fault < 0 && tightness(token) == level; i++) {
                int sign = token;
                advance();
                parseJoined(level + 1, open, nots);
                addStep(-sign);
            }
        }

        private void parsePiece(int open, int nots) {
            if (fault >= 0) {
                return;
            }
            if (token == NUMBER) {
                addLeaf(numberHere());
                advance();
            } else if (token == WORD && nameHere() >= 0) {
                addLeaf(Text.NAME + nameHere());
                advance();
            } else if (token == '!' && nots < MOST_OPEN) {
                advance();
                parsePiece(open, nots + 1);
                addStep(-'!');
            } else if (token == '(' && open < MOST_OPEN) {
                advance();
                parseJoined(LOOSEST, open + 1, nots);
                parseClosing();
            } else {
                refuse();
            }
        }

        private void parseClosing() {
            if (token == ')') {
                advance();
            } else {
                refuse();
            }
        }

        private int numberHere() {
            int number = 0;
            for (int i = from; i < until && i < length; i++) {
                number = number * 10 + bytes[i] - '0';
            }
            return number;
        }

        /** Which of the values that the key has a name for, or -1. */
        private int nameHere() {
            String names = key == OF_HOLD ? "haf" : key == OF_STOP ? "spt" : "ap";
            return until - from == 1 && from < length ? names.indexOf((char) bytes[from]) : -1;
        }

        private void addLeaf(int step) {
            addStep(step);
            leaves++;
        }

        private void addStep(int step) {
            if (stepCount < MOST_BYTES) {
                steps[stepCount] = step;
                stepCount++;
            }
        }
    }

    private static final class Sheet {
        int sort = MISSING;
        int length;
        /** Whole numbers, or NONE for NO NUMBER (which no short and no float can be). */
        final int[] places = new int[MOST_PLACES];

        void begin(int newSort, int newLength) {
            sort = newSort;
            length = newLength;
            Arrays.fill(places, 0);
        }

        void become(Sheet other) {
            sort = other.sort;
            length = other.length;
            System.arraycopy(other.places, 0, places, 0, MOST_PLACES);
        }

        boolean isNumber(int place) {
            return within(place, 0, length - 1) && places[place] != NONE;
        }

        boolean hasPlaces(int place, int many) {
            return within(many, 0, length) && within(place, 0, length - many);
        }
    }

    private static final class Slot {
        int thing = HOLDS_NOTHING;
        final Stop stop = new Stop();
        final Sheet row = new Sheet();
        int number;

        /** Why it can't be taken for such a thing, or 0. */
        int refusalAs(int wanted) {
            if (thing == HOLDS_NOTHING) {
                return NOTHING;
            }
            return thing == wanted ? 0 : KIND;
        }
    }
}
